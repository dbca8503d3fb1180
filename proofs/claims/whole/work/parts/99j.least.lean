/-! The call: least. -/
def nxR (hp : Nat) : List Nat → Bool × List Nat
  | [] => (false, [])
  | x :: t => if x = 9 then ((nxR hp t).1, 9 :: (nxR hp t).2) else if x + 1 = hp then ((nxR hp t).1, 0 :: (nxR hp t).2) else (true, (x + 1) :: t)
def rkR (hp : Nat) : List Nat → Nat
  | [] => 0
  | x :: t => if x = 9 then rkR hp t else x + hp * rkR hp t
def cpR (hp : Nat) : List Nat → Nat
  | [] => 1
  | x :: t => if x = 9 then cpR hp t else hp * cpR hp t
def dgOk (hp : Nat) (t : List Nat) : Prop := ∀ x ∈ t, x < hp ∨ x = 9
theorem nxR_rk {hp : Nat} (h0 : 0 < hp) (h3 : hp ≤ 3) : ∀ t : List Nat, dgOk hp t → rkR hp t < cpR hp t ∧ cpR hp (nxR hp t).2 = cpR hp t ∧ dgOk hp (nxR hp t).2 ∧ (nxR hp t).2.length = t.length ∧ (nxR hp t).1 = decide (rkR hp t + 1 < cpR hp t) ∧ ((nxR hp t).1 = true → rkR hp (nxR hp t).2 = rkR hp t + 1)
  | [], _ => ⟨by show 0 < 1; omega, rfl, fun x hx => by simp [nxR] at hx, rfl, by simp [nxR, rkR, cpR], fun h => by simp [nxR] at h⟩
  | x :: t, h => by
    have hx := h x List.mem_cons_self
    obtain ⟨a1, a2, a3, a4, a5, a6⟩ := nxR_rk h0 h3 t (fun y hy => h y (List.mem_cons_of_mem _ hy))
    rw [nxR, rkR, cpR]
    by_cases q9 : x = 9
    · simp only [q9, if_true]
      refine ⟨a1, by rw [cpR, if_pos rfl]; exact a2, fun y hy => ?_, by simp [a4], a5, fun hh => by rw [rkR, if_pos rfl]; exact a6 hh⟩
      rcases List.mem_cons.mp hy with rfl | hy
      · exact Or.inr rfl
      · exact a3 y hy
    · have hxl : x < hp := by rcases hx with h | h <;> omega
      simp only [q9, if_false]
      by_cases q1 : x + 1 = hp
      · simp only [q1, if_true]
        refine ⟨?_, by rw [cpR, if_neg (by decide), a2], fun y hy => ?_, by simp [a4], ?_, fun hh => ?_⟩
        · rcases (show hp = 1 ∨ hp = 2 ∨ hp = 3 by omega) with rfl | rfl | rfl <;> omega
        · rcases List.mem_cons.mp hy with rfl | hy
          · exact Or.inl h0
          · exact a3 y hy
        · rw [a5]
          refine decide_eq_decide.mpr ?_
          rcases (show hp = 1 ∨ hp = 2 ∨ hp = 3 by omega) with rfl | rfl | rfl <;> omega
        · rw [rkR, if_neg (by decide), a6 hh]
          rcases (show hp = 1 ∨ hp = 2 ∨ hp = 3 by omega) with rfl | rfl | rfl <;> omega
      · simp only [q1, if_false]
        have h9 : ¬ x + 1 = 9 := by omega
        refine ⟨?_, by rw [cpR, if_neg h9], fun y hy => ?_, by simp, ?_, fun _ => ?_⟩
        · rcases (show hp = 1 ∨ hp = 2 ∨ hp = 3 by omega) with rfl | rfl | rfl <;> omega
        · rcases List.mem_cons.mp hy with rfl | hy
          · exact Or.inl (by omega)
          · exact h y (List.mem_cons_of_mem _ hy)
        · refine (decide_eq_true ?_).symm
          rcases (show hp = 1 ∨ hp = 2 ∨ hp = 3 by omega) with rfl | rfl | rfl <;> omega
        · rw [rkR, if_neg h9]
          omega
theorem cpR_le {hp : Nat} (h0 : 0 < hp) (h3 : hp ≤ 3) : ∀ t : List Nat, t.length ≤ 6 → cpR hp t ≤ 3 ^ t.length
  | [], _ => by show 1 ≤ 3 ^ 0; decide
  | x :: t, h => by
    have := cpR_le h0 h3 t (by rw [List.length_cons] at h; omega)
    rw [cpR, List.length_cons, Nat.pow_succ]
    split
    · omega
    · rcases (show hp = 1 ∨ hp = 2 ∨ hp = 3 by omega) with rfl | rfl | rfl <;> omega
/-- the next laying, from the last guest on -/
theorem sX8_next_L7 {hp : Nat} {se : Nat → Int32} (hh : hp ≤ 3) (h0 : 0 < hp) (hse : se 0 = nI hp) :
    ∀ (t D : List Nat) (n : Nat) (row : Nat → Int32), t.length ≤ 10 → t.length < n → dgOk hp t → arr row (t.reverse ++ D) → ∃ r2, fX8_nextLaying_L7 se n (ixm t.length) row = some r2 ∧ arr r2 ((nxR hp t).2.reverse ++ D) := by
  intro t
  induction t with
  | nil =>
    intro D n row h1 h2 h3 h4
    obtain ⟨n, rfl⟩ : ∃ k, n = k + 1 := ⟨n - 1, by omega⟩
    rw [fX8_nextLaying_L7, List.length_nil, ixm_0]
    simp (disch := omega) only [zlit, zz, if_pos, if_neg, if_true, if_false, zgd', zl, zbs, zbz, encz]
    exact ⟨_, rfl, h4⟩
  | cons x t ih =>
    intro D n row h1 h2 h3 h4
    obtain ⟨n, rfl⟩ : ∃ k, n = k + 1 := ⟨n - 1, by omega⟩
    rw [List.length_cons] at h1 h2
    have hx := h3 x List.mem_cons_self
    have h3' : dgOk hp t := fun y hy => h3 y (List.mem_cons_of_mem _ hy)
    have hr : row t.length = nI x := h4 _ x (by rw [List.reverse_cons, List.append_assoc, List.getElem?_append_right (by simp)]; simp)
    have hup : ∀ v : Nat, arr (upd row t.length (nI v)) (t.reverse ++ v :: D) := fun v => by
      intro i y hy
      unfold upd
      by_cases q : i = t.length
      · rw [if_pos q]
        rw [q, List.getElem?_append_right (by simp)] at hy
        simp at hy
        rw [hy]
      · rw [if_neg q]
        refine h4 i y ?_
        rw [List.reverse_cons, List.append_assoc]
        by_cases qi : i < t.length
        · rw [List.getElem?_append_left (by simpa using qi)] at hy ⊢
          exact hy
        · rw [List.getElem?_append_right (by simp; omega)] at hy ⊢
          rw [List.length_reverse] at hy ⊢
          obtain ⟨j, hj⟩ : ∃ j, i - t.length = j + 1 := ⟨i - t.length - 1, by omega⟩
          rw [hj, List.getElem?_cons_succ] at hy
          rw [hj, List.singleton_append, List.getElem?_cons_succ]
          exact hy
    have huu : ∀ a b : Int32, upd (upd row t.length a) t.length b = upd row t.length b := fun a b => by
      funext j
      unfold upd
      split <;> rfl
    rw [fX8_nextLaying_L7, List.length_cons, ixm_s, nxR]
    by_cases q9 : x = 9
    · obtain ⟨r2, e1, e2⟩ := ih (9 :: D) n row (by omega) (by omega) h3' (by rw [List.reverse_cons, List.append_assoc, q9] at h4; exact h4)
      refine ⟨r2, ?_, by rw [if_pos q9, List.reverse_cons, List.append_assoc]; exact e2⟩
      rw [← e1]
      simp (disch := omega) only [zlit, zz, if_pos, if_neg, if_true, if_false, zgd', zl, zbs, zbz, encz, hr, q9, fX8_nextLaying_J58, ixm_m1]
    · have hxl : x < hp := by rcases hx with h | h <;> omega
      by_cases q1 : x + 1 = hp
      · obtain ⟨r2, e1, e2⟩ := ih (0 :: D) n (upd row t.length (nI 0)) (by omega) (by omega) h3' (hup 0)
        refine ⟨r2, ?_, by rw [if_neg q9, if_pos q1, List.reverse_cons, List.append_assoc]; exact e2⟩
        rw [← e1]
        have hu : upd row t.length (nI (x + 1)) t.length = nI (x + 1) := by simp [upd]
        simp (disch := omega) only [zlit, zz, if_pos, if_neg, if_true, if_false, zgd', zl, zbs, zbz, encz, hr, hse, hu, huu, fX8_nextLaying_J58, ixm_m1]
      · refine ⟨upd row t.length (nI (x + 1)), ?_, by rw [if_neg q9, if_neg q1, List.reverse_cons, List.append_assoc]; exact hup (x + 1)⟩
        have hu : upd row t.length (nI (x + 1)) t.length = nI (x + 1) := by simp [upd]
        simp (disch := omega) only [zlit, zz, if_pos, if_neg, if_true, if_false, zgd', zl, zbs, zbz, encz, hr, hse, hu]
theorem sX10_next_L7 {hp : Nat} (hh : hp ≤ 3) (h0 : 0 < hp) :
    ∀ (t D : List Nat) (n : Nat) (row : Nat → Int32), t.length ≤ 10 → t.length < n → dgOk hp t → arr row (t.reverse ++ D) → ∃ r2, fX10_nextLaying_L7 (nI hp) n (ixm t.length) row = some (zb01 (nxR hp t).1, r2) ∧ arr r2 ((nxR hp t).2.reverse ++ D) := by
  intro t
  induction t with
  | nil =>
    intro D n row h1 h2 h3 h4
    obtain ⟨n, rfl⟩ : ∃ k, n = k + 1 := ⟨n - 1, by omega⟩
    rw [fX10_nextLaying_L7, List.length_nil, ixm_0]
    simp (disch := omega) only [zlit, zz, if_pos, if_neg, if_true, if_false, zgd', zl, zbs, zbz, encz, fX10_nextLaying_J66]
    exact ⟨_, rfl, h4⟩
  | cons x t ih =>
    intro D n row h1 h2 h3 h4
    obtain ⟨n, rfl⟩ : ∃ k, n = k + 1 := ⟨n - 1, by omega⟩
    rw [List.length_cons] at h1 h2
    have hx := h3 x List.mem_cons_self
    have h3' : dgOk hp t := fun y hy => h3 y (List.mem_cons_of_mem _ hy)
    have hr : row t.length = nI x := h4 _ x (by rw [List.reverse_cons, List.append_assoc, List.getElem?_append_right (by simp)]; simp)
    have hup : ∀ v : Nat, arr (upd row t.length (nI v)) (t.reverse ++ v :: D) := fun v => by
      intro i y hy
      unfold upd
      by_cases q : i = t.length
      · rw [if_pos q]
        rw [q, List.getElem?_append_right (by simp)] at hy
        simp at hy
        rw [hy]
      · rw [if_neg q]
        refine h4 i y ?_
        rw [List.reverse_cons, List.append_assoc]
        by_cases qi : i < t.length
        · rw [List.getElem?_append_left (by simpa using qi)] at hy ⊢
          exact hy
        · rw [List.getElem?_append_right (by simp; omega)] at hy ⊢
          rw [List.length_reverse] at hy ⊢
          obtain ⟨j, hj⟩ : ∃ j, i - t.length = j + 1 := ⟨i - t.length - 1, by omega⟩
          rw [hj, List.getElem?_cons_succ] at hy
          rw [hj, List.singleton_append, List.getElem?_cons_succ]
          exact hy
    rw [fX10_nextLaying_L7, List.length_cons, ixm_s, nxR]
    by_cases q9 : x = 9
    · obtain ⟨r2, e1, e2⟩ := ih (9 :: D) n (upd row t.length (nI 9)) (by omega) (by omega) h3' (hup 9)
      refine ⟨r2, ?_, by rw [if_pos q9, List.reverse_cons, List.append_assoc]; exact e2⟩
      rw [if_pos q9, ← e1]
      simp (disch := omega) only [zlit, zz, if_pos, if_neg, if_true, if_false, zgd', zl, zbs, zbz, encz, hr, q9, fX10_nextLaying_J37, ixm_m1]
    · have hxl : x < hp := by rcases hx with h | h <;> omega
      by_cases q1 : x + 1 = hp
      · obtain ⟨r2, e1, e2⟩ := ih (0 :: D) n (upd row t.length (nI 0)) (by omega) (by omega) h3' (hup 0)
        refine ⟨r2, ?_, by rw [if_neg q9, if_pos q1, List.reverse_cons, List.append_assoc]; exact e2⟩
        rw [if_neg q9, if_pos q1, ← e1]
        simp (disch := omega) only [zlit, zz, if_pos, if_neg, if_true, if_false, zgd', zl, zbs, zbz, encz, hr, fX10_nextLaying_J37, ixm_m1]
      · refine ⟨upd row t.length (nI (x + 1)), ?_, by rw [if_neg q9, if_neg q1, List.reverse_cons, List.append_assoc]; exact hup (x + 1)⟩
        rw [if_neg q9, if_neg q1]
        simp (disch := omega) only [zlit, zz, if_pos, if_neg, if_true, if_false, zgd', zl, zbs, zbz, encz, hr, fX10_nextLaying_J66]
/-- a laying that is told -/
def asOne (S : LayS) (g c : Nat) : LayS := (if c < 3 then va_up S.1 c (S.1 c ++ [g]) else S.1, none, va_up S.2.2 g c)
def asF : Nat → List Nat → LayS → LayS
  | _, [], S => S
  | g, c :: w, S => asF (g + 1) w (asOne S g c)
def asS (w : List Nat) : LayS := asF 0 w (fun _ => [], none, fun _ => 10)
theorem asF_LI {hp : Nat} (hhp : hp ≤ 3) : ∀ (w : List Nat) (g : Nat) (S : LayS), LI hp (List.range g) S → dgOk hp w → LI hp (List.range (g + w.length)) (asF g w S)
  | [], g, S, h, _ => h
  | c :: w, g, S, h, hw => by
    have hc := hw c List.mem_cons_self
    rw [asF, List.length_cons, show g + (w.length + 1) = g + 1 + w.length by omega]
    refine asF_LI hhp w (g + 1) _ ?_ (fun y hy => hw y (List.mem_cons_of_mem _ hy))
    rw [List.range_succ]
    exact LI_put hhp (by rcases hc with h | h <;> omega) (by simp) h
theorem asS_LI {hp N : Nat} {w : List Nat} (hhp : hp ≤ 3) (hw : dgOk hp w) (hl : w.length = N) : LI hp (List.range N) (asS w) := by
  have := asF_LI hhp w 0 (fun _ => [], none, fun _ => 10) (LI_nil hp) hw
  rw [Nat.zero_add, hl] at this
  exact this
theorem asF_mono : ∀ (w : List Nat) (g : Nat) (S : LayS) (h : Nat), (S.1 h).length ≤ ((asF g w S).1 h).length
  | [], _, _, _ => Nat.le_refl _
  | c :: w, g, S, h => by
    rw [asF]
    refine Nat.le_trans ?_ (asF_mono w (g + 1) _ h)
    unfold asOne
    show _ ≤ ((if c < 3 then va_up S.1 c (S.1 c ++ [g]) else S.1) h).length
    split
    · unfold va_up
      split
      · rename_i q; rw [q]; simp
      · exact Nat.le_refl _
    · exact Nat.le_refl _
def fitB (ho : Nat) (H : HP) : Bool := decide ((H 0).length ≤ ho) && (decide ((H 1).length ≤ ho) && decide ((H 2).length ≤ ho))
theorem fitB_iff {ho : Nat} {H : HP} : fitB ho H = true ↔ ∀ h, h < 3 → (H h).length ≤ ho := by
  unfold fitB
  rw [Bool.and_eq_true, Bool.and_eq_true, decide_eq_true_iff, decide_eq_true_iff, decide_eq_true_iff]
  constructor
  · rintro ⟨a, b, c⟩ h hh
    rcases (show h = 0 ∨ h = 1 ∨ h = 2 by omega) with rfl | rfl | rfl <;> assumption
  · intro h
    exact ⟨h 0 (by omega), h 1 (by omega), h 2 (by omega)⟩
theorem asOne_len {S : LayS} {g c k : Nat} (h : ∀ h, (S.1 h).length ≤ g) : ((asOne S g c).1 k).length ≤ g + 1 := by
  unfold asOne
  show ((if c < 3 then va_up S.1 c (S.1 c ++ [g]) else S.1) k).length ≤ g + 1
  have h1 := h k
  have h2 := h c
  split
  · unfold va_up
    split
    · simp; omega
    · omega
  · omega
theorem sX3_layAs_L18 {fuel N hp : Nat} {row : Nat → Int32} (hN : N ≤ 10) (hhp : hp ≤ 3) :
    ∀ (w : List Nat) (n g : Nat) (S : LayS) (bh : Int32) (pi : Nat → Nat → Int32) (hts sps : Nat → Int32), g + w.length = N → w.length < n → arrAt row g w → dgOk hp w → cB S.1 pi hts → (∀ h, (S.1 h).length ≤ g) → (∀ x, x < g → sps x = encW (S.2.2 x)) →
      ∃ o, fX3_layAs_L18 fuel row (nI N) n (nI g) bh pi hts sps = some o ∧ o.1 = bh ∧ cB (asF g w S).1 o.2.1 o.2.2.1 ∧ ∀ x, x < N → o.2.2.2 x = encW ((asF g w S).2.2 x) := by
  intro w
  induction w with
  | nil =>
    intro n g S bh pi hts sps h1 h2 h3 h4 h5 h6 h7
    obtain ⟨n, rfl⟩ : ∃ k, n = k + 1 := ⟨n - 1, by omega⟩
    rw [List.length_nil] at h1
    rw [fX3_layAs_L18]
    simp (disch := omega) only [zlit, zz, if_pos, if_neg, if_true, if_false, zgd', zl, zbs, zbz, encz]
    exact ⟨_, rfl, rfl, h5, fun x hx => h7 x (by omega)⟩
  | cons c w ih =>
    intro n g S bh pi hts sps h1 h2 h3 h4 h5 h6 h7
    obtain ⟨n, rfl⟩ : ∃ k, n = k + 1 := ⟨n - 1, by omega⟩
    rw [List.length_cons] at h1 h2
    have hc : row g = nI c := h3 0 c rfl
    have hcd := h4 c List.mem_cons_self
    have h3' : arrAt row (g + 1) w := fun i x hx => by
      have := h3 (i + 1) x (by simpa using hx)
      rw [show g + 1 + i = g + (i + 1) by omega]
      exact this
    have h4' : dgOk hp w := fun y hy => h4 y (List.mem_cons_of_mem _ hy)
    rw [fX3_layAs_L18, asF]
    by_cases q : c < 3
    · have hh := (h5 c q).1
      have hl := h6 c
      have hd : decide (c < 3) = true := decide_eq_true q
      have hly := sX0_lay (fuel := fuel) (sps := sps) (pi := pi) q (show g < 10 by omega) hh (by omega)
      simp (disch := omega) only [zlit, zz, if_pos, if_neg, if_true, if_false, zgd', zl, zbs, zbz, encz, hc, sX9_isHeap, hd, hly, fX3_layAs_J63, reduceCtorEq]
      have e : asOne S g c = (va_up S.1 c (S.1 c ++ [g]), none, va_up S.2.2 g c) := by unfold asOne; rw [if_pos q]
      refine ih n (g + 1) (asOne S g c) bh _ _ _ (by omega) (by omega) h3' h4' (by rw [e]; exact cB_push h5) (fun k => asOne_len h6) (fun x hx => ?_)
      rw [e]
      show upd sps g (nI c) x = encW (va_up S.2.2 g c x)
      unfold upd va_up
      by_cases qx : x = g
      · rw [if_pos qx, if_pos qx]; unfold encW; rw [if_neg (by omega)]
      · rw [if_neg qx, if_neg qx]; exact h7 x (by omega)
    · have c9 : c = 9 := by rcases hcd with h | h <;> omega
      have hd : decide (c < 3) = false := decide_eq_false q
      simp (disch := omega) only [zlit, zz, if_pos, if_neg, if_true, if_false, zgd', zl, zbs, zbz, encz, hc, sX9_isHeap, hd, fX3_layAs_J63]
      have e : asOne S g c = (S.1, none, va_up S.2.2 g c) := by unfold asOne; rw [if_neg q]
      refine ih n (g + 1) (asOne S g c) bh _ _ _ (by omega) (by omega) h3' h4' (by rw [e]; exact h5) (fun k => asOne_len h6) (fun x hx => ?_)
      rw [e]
      show upd sps g (nI 9) x = encW (va_up S.2.2 g c x)
      unfold upd va_up
      by_cases qx : x = g
      · rw [if_pos qx, if_pos qx, c9]; rfl
      · rw [if_neg qx, if_neg qx]; exact h7 x (by omega)
theorem sX10_layOnto_L6 {fuel N hp ho : Nat} {row : Nat → Int32} (hN : N ≤ 10) (hhp : hp ≤ 3) (hho : ho < 100) :
    ∀ (w : List Nat) (n g : Nat) (S : LayS) (pl hi wr : Nat → Int32) (la : Int32), g + w.length = N → w.length < n → arrAt row g w → dgOk hp w → mB S.1 pl hi → (∀ h, (S.1 h).length ≤ g) → (∀ h, h < 3 → (S.1 h).length ≤ ho) → (∀ x, x < g → wr x = encW (S.2.2 x)) →
      ∃ o, fX10_layOnto_L6 fuel (nI N) (nI ho) row n (nI g) pl hi wr la = some o ∧ o.1 = zb01 (fitB ho (asF g w S).1) ∧ (fitB ho (asF g w S).1 = true → mB (asF g w S).1 o.2.1 o.2.2.1 ∧ ∀ x, x < N → o.2.2.2.1 x = encW ((asF g w S).2.2 x)) := by
  intro w
  induction w with
  | nil =>
    intro n g S pl hi wr la h1 h2 h3 h4 h5 h6 h8 h7
    obtain ⟨n, rfl⟩ : ∃ k, n = k + 1 := ⟨n - 1, by omega⟩
    rw [List.length_nil] at h1
    rw [fX10_layOnto_L6, asF, fitB_iff.mpr h8]
    simp (disch := omega) only [zlit, zz, if_pos, if_neg, if_true, if_false, zgd', zl, zbs, zbz, encz]
    exact ⟨_, rfl, rfl, fun _ => ⟨h5, fun x hx => h7 x (by omega)⟩⟩
  | cons c w ih =>
    intro n g S pl hi wr la h1 h2 h3 h4 h5 h6 h8 h7
    obtain ⟨n, rfl⟩ : ∃ k, n = k + 1 := ⟨n - 1, by omega⟩
    rw [List.length_cons] at h1 h2
    have hc : row g = nI c := h3 0 c rfl
    have hcd := h4 c List.mem_cons_self
    have h3' : arrAt row (g + 1) w := fun i x hx => by
      have := h3 (i + 1) x (by simpa using hx)
      rw [show g + 1 + i = g + (i + 1) by omega]
      exact this
    have h4' : dgOk hp w := fun y hy => h4 y (List.mem_cons_of_mem _ hy)
    have hwr : ∀ x, x < g + 1 → upd wr g (nI c) x = encW (va_up S.2.2 g c x) := fun x hx => by
      unfold upd va_up
      by_cases qx : x = g
      · rw [if_pos qx, if_pos qx]; unfold encW; rw [if_neg (by rcases hcd with h | h <;> omega)]
      · rw [if_neg qx, if_neg qx]; exact h7 x (by omega)
    rw [fX10_layOnto_L6, asF]
    by_cases q : c < 3
    · have hh := (h5 c q).1
      have hl := h6 c
      have hrm := sX10_hasRoom (fuel := fuel) (hi := hi) hho (show (S.1 c).length < 100 by omega) hh q
      have e : asOne S g c = (va_up S.1 c (S.1 c ++ [g]), none, va_up S.2.2 g c) := by unfold asOne; rw [if_pos q]
      by_cases qr : (S.1 c).length < ho
      · rw [decide_eq_true qr] at hrm
        have hpo := sX10_putOn (fuel := fuel) (g := g) (pl := pl) q hh (show (S.1 c).length < 10 by omega) (nI g)
        simp (disch := omega) only [zlit, zz, if_pos, if_neg, if_true, if_false, zgd', zl, zbs, zbz, encz, hc, hrm, hpo, fX10_layOnto_J63, z10]
        refine ih n (g + 1) (asOne S g c) _ _ _ la (by omega) (by omega) h3' h4' (by rw [e]; exact mB_push (fun k _ => by have := h6 k; omega) q (by omega) h5) (fun k => asOne_len h6) (fun k hk => ?_) (fun x hx => by rw [e]; exact hwr x hx)
        rw [e]
        show (va_up S.1 c (S.1 c ++ [g]) k).length ≤ ho
        unfold va_up
        split
        · simp; omega
        · exact h8 k hk
      · rw [decide_eq_false qr] at hrm
        have hff : fitB ho (asF (g + 1) w (asOne S g c)).1 = false := by
          cases hb : fitB ho (asF (g + 1) w (asOne S g c)).1 with
          | false => rfl
          | true =>
            have h9 := fitB_iff.mp hb c q
            have h10 := asF_mono w (g + 1) (asOne S g c) c
            rw [e] at h10
            have h11 : (va_up S.1 c (S.1 c ++ [g]) c).length = (S.1 c).length + 1 := by simp [va_up]
            have h12 : (va_up S.1 c (S.1 c ++ [g]) c).length ≤ ((asF (g + 1) w (asOne S g c)).1 c).length := by rw [e]; exact h10
            omega
        rw [hff]
        simp (disch := omega) only [zlit, zz, if_pos, if_neg, if_true, if_false, zgd', zl, zbs, zbz, encz, hc, hrm]
        exact ⟨_, rfl, rfl, fun h => by cases h⟩
    · have c9 : c = 9 := by rcases hcd with h | h <;> omega
      have e : asOne S g c = (S.1, none, va_up S.2.2 g c) := by unfold asOne; rw [if_neg q]
      subst c9
      simp (disch := omega) only [zlit, zz, if_pos, if_neg, if_true, if_false, zgd', zl, zbs, zbz, encz, hc, fX10_layOnto_J63]
      exact ih n (g + 1) (asOne S g 9) _ _ _ la (by omega) (by omega) h3' h4' (by rw [e]; exact h5) (fun k => asOne_len h6) (fun k hk => by rw [e]; exact h8 k hk) (fun x hx => by rw [e]; exact hwr x hx)
