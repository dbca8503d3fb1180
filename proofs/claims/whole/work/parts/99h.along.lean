/-! The call: along. -/
/-- who goes ahead -/
def ahS (mn : Nat → Nat) (a b : Nat) : Prop := mn a < mn b ∨ mn a = mn b ∧ a < b
theorem insR_up {mn : Nat → Nat} {g : Nat} : ∀ (l : List Nat), (∀ x ∈ l, x < g) → l.Pairwise (fun x y => ahS mn y x) → (insR mn g l).Pairwise (fun x y => ahS mn y x)
  | [], _, _ => by simp [insR]
  | x :: xs, h1, h2 => by
    rw [List.pairwise_cons] at h2
    rw [insR]
    split
    · rename_i q
      rw [List.pairwise_cons]
      refine ⟨fun y hy => ?_, insR_up xs (fun z hz => h1 z (List.mem_cons_of_mem _ hz)) h2.2⟩
      rcases List.mem_cons.mp ((insR_perm mn g xs).mem_iff.mp hy) with rfl | hy
      · exact Or.inl q
      · exact h2.1 y hy
    · rename_i q
      have hx := h1 x List.mem_cons_self
      rw [List.pairwise_cons, List.pairwise_cons]
      refine ⟨fun y hy => ?_, h2⟩
      have hy' := h1 y hy
      rcases List.mem_cons.mp hy with rfl | hy
      · unfold ahS; omega
      · have := h2.1 y hy
        unfold ahS at this ⊢
        omega
theorem ordR_up {mn : Nat → Nat} : ∀ n, (ordR mn (List.range n)).Pairwise (fun x y => ahS mn y x)
  | 0 => by simp [ordR]
  | n + 1 => by
    rw [List.range_succ, ordR, List.foldl_append]
    exact insR_up _ (fun x hx => List.mem_range.mp ((ordR_perm mn (List.range n)).mem_iff.mp hx)) (ordR_up n)
theorem odR_up (r : SR) : (odR r).Pairwise (ahS (mnR r)) := by
  unfold odR ordS
  rw [List.pairwise_reverse]
  exact ordR_up (rN r)
/-- g goes just behind o -/
def insA (o g : Nat) : List Nat → List Nat
  | [] => []
  | x :: t => if x = o then x :: g :: t else x :: insA o g t
def alO (l : List Nat) (g o : Nat) : List Nat := insA o g (l.filter fun x => decide (¬ x = g))
theorem alO_eq {A B C : List Nat} {o g : Nat} (h : (A ++ o :: (B ++ g :: C)).Nodup) : alO (A ++ o :: (B ++ g :: C)) g o = A ++ o :: g :: (B ++ C) := by
  have hnd := h
  rw [List.nodup_append, List.nodup_cons, List.nodup_append, List.nodup_cons] at hnd
  obtain ⟨n1, ⟨n2, n3, ⟨n4, n5⟩, n6⟩, n7⟩ := hnd
  have hA : ∀ x ∈ A, ¬ x = g := fun x hx e => n7 x hx g (by simp) e
  have hAo : ∀ x ∈ A, ¬ x = o := fun x hx e => n7 x hx o (by simp) e
  have hB : ∀ x ∈ B, ¬ x = g := fun x hx e => n6 x hx g (by simp) e
  have hC : ∀ x ∈ C, ¬ x = g := fun x hx e => n4 (e ▸ hx)
  have ho : ¬ o = g := fun e => n2 (by rw [e]; simp)
  unfold alO
  rw [List.filter_append, List.filter_cons, List.filter_append, List.filter_cons]
  rw [List.filter_eq_self.mpr (fun x hx => by simpa using hA x hx), List.filter_eq_self.mpr (fun x hx => by simpa using hB x hx), List.filter_eq_self.mpr (fun x hx => by simpa using hC x hx)]
  simp only [ho, not_false_eq_true, decide_true, if_true, not_true_eq_false, decide_false, Bool.false_eq_true, if_false]
  clear hA n7 h n1
  induction A with
  | nil => simp [insA]
  | cons a A ih =>
    have := hAo a List.mem_cons_self
    rw [List.cons_append, insA, if_neg this, ih (fun x hx => hAo x (List.mem_cons_of_mem _ hx))]
    rfl
theorem firstIx_app {A T : List Nat} {x : Nat} (h : x ∉ A) : firstIx (fun y => decide (y = x)) (A ++ x :: T) = some A.length := by
  induction A with
  | nil => simp [firstIx]
  | cons a A ih =>
    have h1 : ¬ a = x := fun e => h (by rw [e]; simp)
    rw [List.cons_append, firstIx, ih (fun q => h (List.mem_cons_of_mem _ q))]
    simp [h1]
/-- two of an order -/
theorem ord2 {l : List Nat} {o g : Nat} (ho : o ∈ l) (hg : g ∈ l) (hne : ¬ o = g) : (∃ A B C, l = A ++ o :: (B ++ g :: C)) ∨ (∃ A B C, l = A ++ g :: (B ++ o :: C)) := by
  obtain ⟨A, T, rfl⟩ := List.append_of_mem ho
  rcases List.mem_append.mp hg with h | h
  · right
    obtain ⟨A1, B, rfl⟩ := List.append_of_mem h
    exact ⟨A1, B, T, by simp⟩
  · left
    rcases List.mem_cons.mp h with h | h
    · exact absurd h.symm hne
    · obtain ⟨B, C, rfl⟩ := List.append_of_mem h
      exact ⟨A, B, C, rfl⟩
theorem ahS_as {mn : Nat → Nat} {a b : Nat} (h : ahS mn a b) : ¬ ahS mn b a := by unfold ahS at *; omega
theorem sX8_goJust_L3 {g o : Nat} {A C : List Nat} (hg : g < 10) (hA : A.length ≤ 9) :
    ∀ (B D : List Nat) (n : Nat) (a : Nat → Int32), A.length + 1 + B.length < 10 → B.length < n → arr a (A ++ o :: B.reverse) → arrAt a (A.length + 1 + B.length + 1) D → ∃ a2, fX8_goJustBehind_L3 (nI g) (nI A.length) n (nI (A.length + 1 + B.length)) a = some a2 ∧ arr a2 (A ++ o :: g :: (B.reverse ++ D)) := by
  intro B
  induction B with
  | nil =>
    intro D n a h1 h2 h3 h4
    obtain ⟨n, rfl⟩ : ∃ k, n = k + 1 := ⟨n - 1, by omega⟩
    rw [List.length_nil, Nat.add_zero] at h1 h4 ⊢
    rw [fX8_goJustBehind_L3]
    simp (disch := omega) only [zlit, zz, if_pos, if_neg, if_true, if_false, zgd', zl, zbs, zbz, encz, fX8_goJustBehind_J39]
    refine ⟨_, rfl, ?_⟩
    have := arr_mid (l := A ++ [o]) (g := g) (d := D) (a := a) (by simpa using h3) (by simpa using h4)
    simpa using this
  | cons b B ih =>
    intro D n a h1 h2 h3 h4
    obtain ⟨n, rfl⟩ : ∃ k, n = k + 1 := ⟨n - 1, by omega⟩
    rw [List.length_cons] at h1 h2 h4 ⊢
    have hb : a (A.length + 1 + B.length) = nI b := h3 _ b (by rw [List.reverse_cons, List.getElem?_append_right (by omega), show A.length + 1 + B.length - A.length = B.length + 1 by omega, List.getElem?_cons_succ, List.getElem?_append_right (by simp)]; simp)
    obtain ⟨a2, e1, e2⟩ := ih (b :: D) n (upd a (A.length + 1 + (B.length + 1)) (nI b)) (by omega) (by omega) (fun i x hx => by
      have hi := (List.getElem?_eq_some_iff.mp hx).1
      rw [List.length_append, List.length_cons, List.length_reverse] at hi
      unfold upd
      rw [if_neg (by omega)]
      refine h3 i x ?_
      rw [List.reverse_cons, ← List.cons_append, ← List.append_assoc, List.getElem?_append_left (by simp; omega)]
      exact hx) (fun i x hx => by
      unfold upd
      cases i with
      | zero => simp at hx; rw [if_pos (by omega), hx]
      | succ i =>
        rw [List.getElem?_cons_succ] at hx
        rw [if_neg (by omega)]
        have := h4 i x hx
        rw [← this]
        congr 1
        omega)
    refine ⟨a2, ?_, by rw [List.reverse_cons, List.append_assoc]; exact e2⟩
    rw [← e1, fX8_goJustBehind_L3]
    simp (disch := omega) only [zlit, zz, if_pos, if_neg, if_true, if_false, zgd', zl, zbs, zbz, encz]
    rw [show A.length + 1 + (B.length + 1) - 1 = A.length + 1 + B.length by omega, hb]
theorem sX10_along_L70 {o g : Nat} {A : List Nat} (fuel : Nat) (M_guests : Int32) (M_kind : Nat → Int32) (M_figure : Nat → Int32) (M_heaps : Int32) (M_back : Int32) (M_mistakes : Int32) (p1 : Int32) (p2 : Int32) (hg : g < 10) (ho : o < 10) (hA : A.length ≤ 9) (hp1 : p1 = nI g) (hp2 : p2 = nI o) :
    ∀ (B D : List Nat) (n : Nat) (v4 : Int32) (M_coming : Nat → Int32) (M_comingMany : Int32) (M_going : Nat → Int32) (M_goingMany : Int32) (M_minute : Nat → Int32) (M_pile : Nat → Int32) (M_high : Nat → Int32) (M_where : Nat → Int32) (M_latest : Int32) (M_lifts : Nat → Int32) (M_begun : Nat → Int32) (M_left : Nat → Int32) (M_has : Nat → Int32) (M_lifted : Nat → Int32) (M_taken : Nat → Int32) (M_above : Nat → Int32) (M_allLifts : Int32) (M_busy : Int32), v4 = nI (A.length + 1 + B.length) → A.length + 1 + B.length < 10 → B.length < n → arr M_going (A ++ o :: B.reverse) → (∀ x ∈ B, ¬ x = o ∧ x < 10) → arrAt M_going (A.length + 1 + B.length + 1) D →
      ∃ a2, fX10_alongWith_L70 fuel M_guests M_kind M_figure M_heaps M_back M_mistakes p1 p2 n v4 M_coming M_comingMany M_going M_goingMany M_minute M_pile M_high M_where M_latest M_lifts M_begun M_left M_has M_lifted M_taken M_above M_allLifts M_busy = (fX10_go fuel M_guests M_kind M_figure M_heaps M_back M_mistakes a2 M_minute M_pile M_high M_where M_lifts M_begun M_left M_has M_lifted M_taken M_above M_allLifts M_busy M_goingMany 1000000).bind (fun o_19 => some (o_19.1, M_coming, M_comingMany, a2, M_goingMany, M_minute, o_19.2.1, o_19.2.2.1, M_where, M_latest, o_19.2.2.2.1, o_19.2.2.2.2.1, o_19.2.2.2.2.2.1, o_19.2.2.2.2.2.2.1, o_19.2.2.2.2.2.2.2.1, o_19.2.2.2.2.2.2.2.2.1, o_19.2.2.2.2.2.2.2.2.2.1, o_19.2.2.2.2.2.2.2.2.2.2.1, o_19.2.2.2.2.2.2.2.2.2.2.2)) ∧ arr a2 (A ++ o :: g :: (B.reverse ++ D)) := by
  subst hp1 hp2
  intro B
  induction B with
  | nil =>
    intro D n v4 M_coming M_comingMany M_going M_goingMany M_minute M_pile M_high M_where M_latest M_lifts M_begun M_left M_has M_lifted M_taken M_above M_allLifts M_busy hv h1 h2 h3 hB h4
    obtain ⟨n, rfl⟩ : ∃ k, n = k + 1 := ⟨n - 1, by omega⟩
    rw [List.length_nil, Nat.add_zero] at h1 h4 hv
    subst hv
    have ha : M_going (A.length + 1 - 1) = nI o := h3 _ o (by simp)
    rw [fX10_alongWith_L70]
    simp (disch := omega) only [zlit, zz, if_pos, if_neg, if_true, if_false, zgd', zl, zbs, zbz, encz, ha, fX10_alongWith_J105]
    refine ⟨_, rfl, ?_⟩
    have := arr_mid (l := A ++ [o]) (g := g) (d := D) (a := M_going) (by simpa using h3) (by simpa using h4)
    simpa using this
  | cons b B ih =>
    intro D n v4 M_coming M_comingMany M_going M_goingMany M_minute M_pile M_high M_where M_latest M_lifts M_begun M_left M_has M_lifted M_taken M_above M_allLifts M_busy hv h1 h2 h3 hB h4
    obtain ⟨n, rfl⟩ : ∃ k, n = k + 1 := ⟨n - 1, by omega⟩
    rw [List.length_cons] at h1 h2 h4 hv
    subst hv
    obtain ⟨hb1, hb2⟩ := hB b List.mem_cons_self
    have hb : M_going (A.length + 1 + (B.length + 1) - 1) = nI b := h3 _ b (by rw [List.reverse_cons, List.getElem?_append_right (by omega), show A.length + 1 + (B.length + 1) - 1 - A.length = B.length + 1 by omega, List.getElem?_cons_succ, List.getElem?_append_right (by simp)]; simp)
    rw [fX10_alongWith_L70]
    simp (disch := omega) only [zlit, zz, if_pos, if_neg, if_true, if_false, zgd', zl, zbs, zbz, encz, hb]
    have hih2 := ih (b :: D) n (nI (A.length + 1 + (B.length + 1) - 1)) M_coming M_comingMany (upd M_going (A.length + 1 + (B.length + 1)) (nI b)) M_goingMany M_minute M_pile M_high M_where M_latest M_lifts M_begun M_left M_has M_lifted M_taken M_above M_allLifts M_busy (by rw [show A.length + 1 + (B.length + 1) - 1 = A.length + 1 + B.length by omega]) (by omega) (by omega) (fun i x hx => by
      have hi := (List.getElem?_eq_some_iff.mp hx).1
      rw [List.length_append, List.length_cons, List.length_reverse] at hi
      unfold upd
      rw [if_neg (by omega)]
      refine h3 i x ?_
      rw [List.reverse_cons, ← List.cons_append, ← List.append_assoc, List.getElem?_append_left (by simp; omega)]
      exact hx) (fun x hx => hB x (List.mem_cons_of_mem _ hx)) (fun i x hx => by
      unfold upd
      cases i with
      | zero => simp at hx; rw [if_pos (by omega), hx]
      | succ i =>
        rw [List.getElem?_cons_succ] at hx
        rw [if_neg (by omega)]
        have := h4 i x hx
        rw [← this]
        congr 1
        omega)
    rw [List.reverse_cons, List.append_assoc]
    exact hih2
/-- the model takes g out of the order -/
theorem sX10_along_L25 {g : Nat} {N : Nat} (fuel : Nat) (M_guests : Int32) (M_kind : Nat → Int32) (M_figure : Nat → Int32) (M_heaps : Int32) (M_back : Int32) (M_mistakes : Int32) (p1 : Int32) (p2 : Int32) (hN : N ≤ 10) (hg : g < 10) (hp1 : p1 = nI g) :
    ∀ (T P : List Nat) (n k : Nat) (M_coming : Nat → Int32) (M_comingMany : Int32) (M_going : Nat → Int32) (M_goingMany : Int32) (M_minute : Nat → Int32) (M_pile : Nat → Int32) (M_high : Nat → Int32) (M_where : Nat → Int32) (M_latest : Int32) (M_lifts : Nat → Int32) (M_begun : Nat → Int32) (M_left : Nat → Int32) (M_has : Nat → Int32) (M_lifted : Nat → Int32) (M_taken : Nat → Int32) (M_above : Nat → Int32) (M_allLifts : Int32) (M_busy : Int32), k + T.length = N → T.length < n → P.length ≤ k → M_goingMany = nI N → arr M_going P → arrAt M_going k T → (∀ x ∈ T, x < 10) →
      ∃ a2, fX10_alongWith_L25 fuel M_guests M_kind M_figure M_heaps M_back M_mistakes p1 p2 n (nI P.length) (nI k) M_coming M_comingMany M_going M_goingMany M_minute M_pile M_high M_where M_latest M_lifts M_begun M_left M_has M_lifted M_taken M_above M_allLifts M_busy = fX10_alongWith_J67 fuel M_guests M_kind M_figure M_heaps M_back M_mistakes p1 p2 (nI (P ++ T.filter fun x => decide (¬ x = g)).length) M_coming M_comingMany a2 M_goingMany M_minute M_pile M_high M_where M_latest M_lifts M_begun M_left M_has M_lifted M_taken M_above M_allLifts M_busy ∧ arr a2 (P ++ T.filter fun x => decide (¬ x = g)) := by
  subst hp1
  intro T
  induction T with
  | nil =>
    intro P n k M_coming M_comingMany M_going M_goingMany M_minute M_pile M_high M_where M_latest M_lifts M_begun M_left M_has M_lifted M_taken M_above M_allLifts M_busy h1 h2 h3 h4 h5 h6 h7
    obtain ⟨n, rfl⟩ : ∃ k, n = k + 1 := ⟨n - 1, by omega⟩
    subst h4
    rw [List.length_nil] at h1
    rw [fX10_alongWith_L25]
    simp (disch := omega) only [zlit, zz, if_pos, if_neg, if_true, if_false, zgd', zl, zbs, zbz, encz]
    rw [List.filter_nil, List.append_nil]
    exact ⟨_, rfl, h5⟩
  | cons c T ih =>
    intro P n k M_coming M_comingMany M_going M_goingMany M_minute M_pile M_high M_where M_latest M_lifts M_begun M_left M_has M_lifted M_taken M_above M_allLifts M_busy h1 h2 h3 h4 h5 h6 h7
    obtain ⟨n, rfl⟩ : ∃ k, n = k + 1 := ⟨n - 1, by omega⟩
    subst h4
    rw [List.length_cons] at h1 h2
    have hc : M_going k = nI c := h6 0 c rfl
    have hcl := h7 c List.mem_cons_self
    have h7' : ∀ x ∈ T, x < 10 := fun x hx => h7 x (List.mem_cons_of_mem _ hx)
    have h6' : arrAt M_going (k + 1) T := fun i x hx => by
      have := h6 (i + 1) x (by simpa using hx)
      rw [show k + 1 + i = k + (i + 1) by omega]
      exact this
    rw [fX10_alongWith_L25]
    by_cases q : c = g
    · subst q
      simp (disch := omega) only [zlit, zz, if_pos, if_neg, if_true, if_false, zgd', zl, zbs, zbz, encz, hc, fX10_alongWith_J61]
      rw [List.filter_cons, if_neg (by simp)]
      exact ih P n (k + 1) M_coming M_comingMany M_going (nI N) M_minute M_pile M_high M_where M_latest M_lifts M_begun M_left M_has M_lifted M_taken M_above M_allLifts M_busy (by omega) (by omega) (by omega) rfl h5 h6' h7'
    · simp (disch := omega) only [zlit, zz, if_pos, if_neg, if_true, if_false, zgd', zl, zbs, zbz, encz, hc, fX10_alongWith_J61]
      rw [List.filter_cons, if_pos (by simpa using q)]
      have := ih (P ++ [c]) n (k + 1) M_coming M_comingMany (upd M_going P.length (nI c)) (nI N) M_minute M_pile M_high M_where M_latest M_lifts M_begun M_left M_has M_lifted M_taken M_above M_allLifts M_busy (by omega) (by omega) (by rw [List.length_append, List.length_singleton]; omega) rfl (arr_push h5) (fun i x hx => by unfold upd; rw [if_neg (by omega)]; exact h6' i x hx) h7'
      rw [List.append_assoc, List.singleton_append, List.length_append, List.length_singleton] at this
      exact this
/-- lifts don't hang on the minutes -/
def eqG (s t : GoS) : Prop := s.1 = t.1 ∧ s.2.1 = t.2.1 ∧ s.2.2.1 = t.2.2.1 ∧ s.2.2.2.2.2.1 = t.2.2.2.2.2.1 ∧ s.2.2.2.2.2.2.1 = t.2.2.2.2.2.2.1
theorem eqG_one {hp ba : Nat} {mist : Bool} {bl : Nat → Bool} {wt mn mn' wh : Nat → Nat} {s t : GoS} {g : Nat} (h : eqG s t) : eqG (goOneS hp ba mist bl wt mn wh s g) (goOneS hp ba mist bl wt mn' wh t g) := by
  obtain ⟨h1, h2, h3, h4, h5⟩ := h
  unfold goOneS
  rw [h1, h2, h3, h4, h5]
  split
  · exact ⟨rfl, rfl, rfl, rfl, rfl⟩
  · cases spotS hp mist bl t.1 g with
    | none => exact ⟨rfl, rfl, rfl, rfl, rfl⟩
    | some q => exact ⟨rfl, rfl, rfl, rfl, rfl⟩
theorem eqG_go {hp ba : Nat} {mist : Bool} {bl : Nat → Bool} {wt mn mn' wh : Nat → Nat} : ∀ (l : List Nat) (i : Nat) (s t : GoS), eqG s t → eqG (goTR hp ba mist bl wt mn wh none i s l) (goTR hp ba mist bl wt mn' wh none i t l)
  | [], _, _, _, h => h
  | g :: l, i, s, t, h => by
    rw [goTR, goTR]
    simp only [reduceCtorEq, if_false]
    exact eqG_go l (i + 1) _ _ (eqG_one h)
/-- the model lets go by minutes that are not the room's -/
theorem sX10_goN {r : SR} {S : LayS} {fuel : Nat} {cs od : List Nat} {mn' : Nat → Nat} {gu hp ho ba mi hk lc : Int32} {ki fi ru going mr wr pl hi : Nat → Int32} (hf : 100 < fuel) (hr : okR r) (hm : mR0 r gu ki fi hp ho ba mi hk lc ru) (hM : cM mr mn' (rN r)) (hcs : okC r cs) (hod : od.Perm cs) (hI : LI (rHp r) cs S) (hwr : ∀ x ∈ cs, wr x = encW (S.2.2 x)) (had : arr going od) (hB : mB S.1 pl hi) (li be en ha ld tk ab : Nat → Int32) (al bu : Int32) :
    ∃ o, fX10_go fuel gu ki fi hp ba mi going mr pl hi wr li be en ha ld tk ab al bu (nI od.length) 1000000 = some o ∧ o.1 = nI (sAll (goR r S none od)) := by
  obtain ⟨to, m1, m2, m3, m4, m5, m6, m7, m8, m9⟩ := hm
  have hr' := hr
  obtain ⟨r1, r2, r3, r4, r5, r6, r7, r8, r9, r10, r11⟩ := hr
  subst m1 m3 m5 m6
  have hod' : (od ++ []).Perm cs := by rw [List.append_nil]; exact hod
  have hlr : (od ++ []).length ≤ 10 := by rw [hod'.length_eq]; exact hcs.2.2
  have hrc : ∀ x ∈ od ++ [], x ∈ cs := fun x hx => hod'.mem_iff.mp hx
  have htn : none = tpS mn' 1000000 od := (tpS_never (fun x hx => by have := (hM x (hcs.2.1 x (hod.mem_iff.mp hx))).2; omega)).symm
  obtain ⟨o, o1, o2, -⟩ := sX10_go_L15 (mi := rMi r) hf r1 r4 r7 (by omega) (fun x hx => sX10_isBlack r1 m2 hx) (fun x hx => sX10_liftOf r1 m2 hx) (wtR_le hr') hM (LI_wh r4 hI) hcs.2.1 hwr (show 1000000 < 2 ^ 31 by decide) hlr (hod'.nodup_iff.mpr hcs.1) (fun x => hod'.mem_iff) had htn (LI_GI r4 hcs.2.2 hcs.2.1 hI hlr hrc) hB (fun x hx h3 => by
    obtain ⟨i1, i2, i3, i4, i5⟩ := hI
    have hxc : x ∈ cs := by
      by_cases q : x ∈ cs
      · exact q
      · have := i2 x q; omega
    have := i3 x
    exact mem_flat.mpr ⟨S.2.2 x, h3, (i1 _ x).mpr ⟨by omega, hxc, rfl⟩⟩) li be en ha ab (rN r) fuel 0 ld tk (by omega) (by omega) (fun x hx => absurd hx (Nat.not_lt_zero x))
  refine ⟨o, o1, ?_⟩
  rw [o2]
  exact congrArg nI (eqG_go od 0 (go0 S.1) (go0 S.1) ⟨rfl, rfl, rfl, rfl, rfl⟩).2.2.2.2
/-- all lifts if g goes along with o -/
def alT (r : SR) (g o : Nat) : Nat := sAll (goR r (layR r (List.range (rN r))) none (alO (odR r) g o))
theorem alO_perm {A B C : List Nat} {o g : Nat} : (A ++ o :: g :: (B ++ C)).Perm (A ++ o :: (B ++ g :: C)) := by
  refine List.Perm.append_left A (List.Perm.cons o ?_)
  exact List.perm_middle.symm
theorem sX10_alongWith {r : SR} {o g : Nat} {A B C : List Nat} (fuel : Nat) (M_guests : Int32) (M_kind : Nat → Int32) (M_figure : Nat → Int32) (M_told : Nat → Int32) (M_heaps : Int32) (M_holds : Int32) (M_back : Int32) (M_mistakes : Int32) (M_hooks : Int32) (M_letters : Int32) (M_rule : Nat → Int32) (M_coming : Nat → Int32) (M_comingMany : Int32) (M_going : Nat → Int32) (M_goingMany : Int32) (M_minute : Nat → Int32) (M_pile : Nat → Int32) (M_high : Nat → Int32) (M_where : Nat → Int32) (M_latest : Int32) (M_lifts : Nat → Int32) (M_begun : Nat → Int32) (M_left : Nat → Int32) (M_has : Nat → Int32) (M_lifted : Nat → Int32) (M_taken : Nat → Int32) (M_above : Nat → Int32) (M_allLifts : Int32) (M_busy : Int32) (p1 : Int32) (p2 : Int32) (hf : 100 < fuel) (hr : okR r) (hm : mR r M_guests M_kind M_figure M_told M_heaps M_holds M_back M_mistakes M_hooks M_letters M_rule) (ho : o < rN r) (hg : g < rN r) (h1 : p1 = nI g) (h2 : p2 = nI o) (hod : odR r = A ++ o :: (B ++ g :: C)) : ∃ q, fX10_alongWith fuel M_guests M_kind M_figure M_told M_heaps M_holds M_back M_mistakes M_hooks M_letters M_rule M_coming M_comingMany M_going M_goingMany M_minute M_pile M_high M_where M_latest M_lifts M_begun M_left M_has M_lifted M_taken M_above M_allLifts M_busy p1 p2 = some q ∧ q.1 = nI (alT r g o) := by
  have hN := hr.1
  subst h1 h2
  unfold fX10_alongWith
  obtain ⟨u, u1, u2, u3, u4, u5, u6⟩ := sX10_usualR hf hr hm M_coming M_comingMany M_going M_goingMany M_minute
  obtain ⟨w, w1, w2, w3⟩ := sX10_layR (fuel := fuel) hf hr ⟨M_told, hm⟩ u6 (okC_range hr) u2 M_pile M_high M_where M_latest
  rw [List.length_range] at w1
  rw [u1, zbs, u3, w1, zbs, u5]
  have hnd := odR_nd r
  have hlen := odR_len r
  rw [hod] at hnd hlen
  have hmem : ∀ x ∈ odR r, x < 10 := fun x hx => by have := odR_mem.mp hx; omega
  obtain ⟨a2, e1, e2⟩ := sX10_along_L25 (g := g) (N := rN r) fuel M_guests M_kind M_figure M_heaps M_back M_mistakes (nI g) (nI o) hN (by omega) rfl (odR r) [] fuel 0 u.1 (nI (rN r)) u.2.2.1 (nI (rN r)) (upd u.2.2.2.2 g (u.2.2.2.2 o)) w.1 w.2.1 w.2.2.1 w.2.2.2 M_lifts M_begun M_left M_has M_lifted M_taken M_above M_allLifts M_busy (by rw [odR_len]; omega) (by rw [odR_len]; omega) (by simp) rfl arr_nil (fun i x hx => by rw [Nat.zero_add]; exact u4 i x hx) hmem
  have hnd' := hnd
  rw [List.nodup_append, List.nodup_cons, List.nodup_append, List.nodup_cons] at hnd'
  obtain ⟨n1, ⟨n2, n3, ⟨n4, n5⟩, n6⟩, n7⟩ := hnd'
  have hfl : (odR r).filter (fun x => decide (¬ x = g)) = A ++ o :: (B ++ C) := by
    have hA : ∀ x ∈ A, ¬ x = g := fun x hx e => n7 x hx g (by simp) e
    have hB : ∀ x ∈ B, ¬ x = g := fun x hx e => n6 x hx g (by simp) e
    have hC : ∀ x ∈ C, ¬ x = g := fun x hx e => n4 (e ▸ hx)
    have ho' : ¬ o = g := fun e => n2 (by rw [e]; simp)
    rw [hod, List.filter_append, List.filter_cons, List.filter_append, List.filter_cons, List.filter_eq_self.mpr (fun x hx => by simpa using hA x hx), List.filter_eq_self.mpr (fun x hx => by simpa using hB x hx), List.filter_eq_self.mpr (fun x hx => by simpa using hC x hx)]
    simp [ho']
  rw [List.nil_append, hfl] at e1 e2
  have hlen2 : (A ++ o :: (B ++ C)).length = A.length + 1 + (B ++ C).reverse.length := by simp; omega
  have hlt : A.length + 1 + (B ++ C).reverse.length < 10 := by
    simp only [List.length_append, List.length_cons, List.length_reverse] at hlen ⊢
    omega
  have hlA : A.length ≤ 9 := by omega
  have hno : ∀ x ∈ (B ++ C).reverse, ¬ x = o ∧ x < 10 := fun x hx => by
    have hx' : x ∈ B ++ C := List.mem_reverse.mp hx
    refine ⟨fun e => n2 ?_, ?_⟩
    · rw [← e]
      rcases List.mem_append.mp hx' with h | h
      · exact List.mem_append_left _ h
      · exact List.mem_append_right _ (List.mem_cons_of_mem _ h)
    · refine hmem x ?_
      rw [hod]
      rcases List.mem_append.mp hx' with h | h
      · simp [h]
      · simp [h]
  obtain ⟨a3, f1, f2⟩ := sX10_along_L70 (o := o) (g := g) (A := A) fuel M_guests M_kind M_figure M_heaps M_back M_mistakes (nI g) (nI o) (by omega) (by omega) hlA rfl rfl (B ++ C).reverse [] fuel (nI (A ++ o :: (B ++ C)).length) u.1 (nI (rN r)) a2 (nI (rN r)) (upd u.2.2.2.2 g (u.2.2.2.2 o)) w.1 w.2.1 w.2.2.1 w.2.2.2 M_lifts M_begun M_left M_has M_lifted M_taken M_above M_allLifts M_busy (by rw [hlen2]) hlt (by omega) (by rw [List.reverse_reverse]; exact e2) hno (fun i x hx => by simp at hx)
  rw [List.reverse_reverse, List.append_nil] at f2
  have hal : alO (odR r) g o = A ++ o :: g :: (B ++ C) := by rw [hod]; exact alO_eq hnd
  have hpm : (alO (odR r) g o).Perm (List.range (rN r)) := by
    rw [hal]
    refine alO_perm.trans ?_
    rw [← hod]
    exact odR_perm r
  have hM2 : cM (upd u.2.2.2.2 g (u.2.2.2.2 o)) (fun x => if x = g then mnR r o else mnR r x) (rN r) := fun x hx => by
    unfold upd
    by_cases q : x = g
    · simp only [q, if_true]; exact u6 o ho
    · simp only [q, if_false]; exact u6 x hx
  rw [← hal] at f2
  obtain ⟨v, v1, v2⟩ := sX10_goN (fuel := fuel) hf hr ⟨M_told, hm⟩ hM2 (okC_range hr) hpm (LI_C hr (okC_range hr)) w3 f2 w2 M_lifts M_begun M_left M_has M_lifted M_taken M_above M_allLifts M_busy
  rw [hpm.length_eq, List.length_range] at v1
  unfold fX10_alongWith_J67 at e1
  rw [f1, v1, zbs, List.length_nil] at e1
  rw [zin_nI (by omega), zgd' (by omega), zin_nI (by omega), zgd' (by omega), nI_clamp (by omega), nI_clamp (by omega), zl, show (0 : Int32) = nI 0 from rfl, e1]
  exact ⟨_, rfl, v2⟩
