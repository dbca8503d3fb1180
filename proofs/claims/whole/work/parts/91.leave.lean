/-! The call: leaves, on. -/
theorem lvS_lt {v g N : Nat} (hv : v < 2 ^ N) (hg : g < N) : lvS v g < 2 ^ (N - 1) := by
  unfold lvS
  have h1 : v % 2 ^ g < 2 ^ g := Nat.mod_lt _ (Nat.pow_pos (by decide))
  have e1 : 2 ^ N = 2 ^ (g + 1) * 2 ^ (N - 1 - g) := by rw [← Nat.pow_add]; congr 1; omega
  have h2 : v / 2 ^ (g + 1) < 2 ^ (N - 1 - g) := Nat.div_lt_of_lt_mul (by rw [← e1]; exact hv)
  have e2 : 2 ^ (N - 1) = 2 ^ (N - 1 - g) * 2 ^ g := by rw [← Nat.pow_add]; congr 1; omega
  have h3 : (v / 2 ^ (g + 1) + 1) * 2 ^ g ≤ 2 ^ (N - 1) := by rw [e2]; exact Nat.mul_le_mul_right _ h2
  rw [Nat.add_mul, Nat.one_mul] at h3
  omega
def shS (f : Nat → Nat) (g : Nat) : Nat → Nat := fun i => if i < g then f i else f (i + 1)
def rLeave (r : SR) (g : Nat) : SR := (rN r - 1, shS (rK r) g, shS (rF r) g, shS (rM r) g, rHp r, rHo r, rBa r, rMi r, lvS (rHk r) g, rL r)
theorem ok_leaveR {r : SR} {g : Nat} (hr : okR r) (hg : g < rN r) (hk : rHk r < 2 ^ rN r) : okR (rLeave r g) := by
  have hlt := lvS_lt hk hg
  have hpw := pow_le (n := rN r - 1) (by have := hr.1; omega)
  obtain ⟨a1, a2, a3, a4, a5, a6, a7, a8, a9, a10⟩ := hr
  refine ⟨by show rN r - 1 ≤ 10; omega, fun i hi => ?_, a3, a4, a5, a6, a7, a8, by show lvS (rHk r) g < 2 ^ 31; omega, a10⟩
  have hi' : i < rN r - 1 := hi
  show shS (rK r) g i ≤ 7 ∧ shS (rF r) g i ≤ 9 ∧ shS (rM r) g i < 200
  unfold shS
  split
  · exact a2 i (by omega)
  · exact a2 (i + 1) (by omega)
theorem ok_leave {r : SR} {g : Nat} (hr : okT r) (hg : g < rN r) : okT (rLeave r g) := by
  refine ⟨ok_leaveR hr.1 hg hr.2.2.1, fun i hi => ?_, lvS_lt hr.2.2.1 hg, ?_⟩
  · have hi' : i < rN r - 1 := hi
    show shS (rM r) g i < 100
    unfold shS
    split
    · exact hr.2.1 i (by omega)
    · exact hr.2.1 (i + 1) (by omega)
  · have h1 := pop_leave g (by have := hr.1.1; omega) (rHk r) (okT_hk hr)
    have h2 := hr.2.2.2
    show popS (lvS (rHk r) g) ≤ 3
    omega
theorem kfm_leave {N g : Nat} {K F M : Nat → Nat} {ki fi mi k2 f2 m2 : Nat → Int32} (hg : g < N) (h : kfm N K F M ki fi mi) (e : ∀ x, (k2 x = if g ≤ x ∧ x + 1 < N then ki (x + 1) else ki x) ∧ (f2 x = if g ≤ x ∧ x + 1 < N then fi (x + 1) else fi x) ∧ (m2 x = if g ≤ x ∧ x + 1 < N then mi (x + 1) else mi x)) : kfm (N - 1) (shS K g) (shS F g) (shS M g) k2 f2 m2 := by
  intro i hi
  obtain ⟨e1, e2, e3⟩ := e i
  rw [e1, e2, e3]
  unfold shS
  by_cases q : i < g
  · simp only [q, if_true]
    rw [if_neg (by omega), if_neg (by omega), if_neg (by omega)]
    exact h i (by omega)
  · simp only [q, if_false]
    rw [if_pos (by omega), if_pos (by omega), if_pos (by omega)]
    exact h (i + 1) (by omega)
theorem shift_upd {N i x : Nat} (h : i + 1 < N) (f : Nat → Int32) : (if i + 1 ≤ x ∧ x + 1 < N then upd f i (f (i + 1)) (x + 1) else upd f i (f (i + 1)) x) = if i ≤ x ∧ x + 1 < N then f (x + 1) else f x := by
  unfold upd
  repeat' split
  all_goals first | rfl | omega | (congr 1; omega)
theorem sX5_dismiss_L2 {N : Nat} {p1 hk : Int32} (hN : N ≤ 10) : ∀ (m n i : Nat) (ki fi mi : Nat → Int32), i + 1 + m = N → m < n → ∃ k2 f2 m2, fX5_dismiss_L2 p1 n (nI i) (nI N) ki fi mi hk = fX5_dismiss_J60 p1 (nI N) k2 f2 m2 hk ∧ ∀ x, (k2 x = if i ≤ x ∧ x + 1 < N then ki (x + 1) else ki x) ∧ (f2 x = if i ≤ x ∧ x + 1 < N then fi (x + 1) else fi x) ∧ (m2 x = if i ≤ x ∧ x + 1 < N then mi (x + 1) else mi x) := by
  intro m
  induction m with
  | zero =>
    intro n i ki fi mi h1 h2
    obtain ⟨n, rfl⟩ : ∃ k, n = k + 1 := ⟨n - 1, by omega⟩
    rw [fX5_dismiss_L2]
    refine ⟨ki, fi, mi, ?_, fun x => ?_⟩
    · simp (disch := omega) only [zlit, zz, if_pos, if_neg, if_true, if_false, zgd', zl, zbs, zbz, encz]
    · rw [if_neg (by omega), if_neg (by omega), if_neg (by omega)]
      exact ⟨rfl, rfl, rfl⟩
  | succ m ih =>
    intro n i ki fi mi h1 h2
    obtain ⟨n, rfl⟩ : ∃ k, n = k + 1 := ⟨n - 1, by omega⟩
    rw [fX5_dismiss_L2]
    obtain ⟨k2, f2, m2, e1, e2⟩ := ih n (i + 1) (upd ki i (ki (i + 1))) (upd fi i (fi (i + 1))) (upd mi i (mi (i + 1))) (by omega) (by omega)
    refine ⟨k2, f2, m2, ?_, fun x => ?_⟩
    · rw [← e1]
      simp (disch := omega) only [zlit, zz, if_pos, if_neg, if_true, if_false, zgd', zl, zbs, zbz, encz]
    · obtain ⟨f1, f2, f3⟩ := e2 x
      rw [f1, f2, f3]
      exact ⟨shift_upd (by omega) ki, shift_upd (by omega) fi, shift_upd (by omega) mi⟩
theorem sX5_dismiss {r : SR} {g fuel : Nat} {gu hk lc : Int32} {ki fi mi se le : Nat → Int32} (hf : 100 < fuel) (hr : okR r) (hh : rHk r < 1024) (hg : g < rN r) (hc : cR r gu ki fi mi se hk le lc) : ∃ o, fX5_dismiss fuel gu ki fi mi hk (nI g) = some o ∧ o.1 = nI (rN r - 1) ∧ cR (rLeave r g) o.1 o.2.1 o.2.2.1 o.2.2.2.1 se o.2.2.2.2 le lc := by
  obtain ⟨c1, c2, c3, c4, c5, c6, c7, c8, c9⟩ := hc
  subst c1 c7
  have hN := hr.1
  unfold fX5_dismiss
  obtain ⟨k2, f2, m2, e1, e2⟩ := sX5_dismiss_L2 (p1 := nI g) (hk := nI (rHk r)) hN (rN r - 1 - g) fuel g ki fi mi (by omega) (by omega)
  rw [e1]
  unfold fX5_dismiss_J60
  rw [zl, zl, zl, zl, zleave g (by omega) _ hh]
  have hsub : nI (rN r) - 1 = nI (rN r - 1) := nI_sub (a := rN r) (b := 1) (by omega)
  rw [hsub]
  exact ⟨_, rfl, rfl, rfl, kfm_leave hg c2 e2, c3, c4, c5, c6, rfl, c8, c9⟩
theorem sX10_leaves_L12 {N : Nat} {p1 hk : Int32} (hN : N ≤ 10) : ∀ (m n i : Nat) (ki fi mi : Nat → Int32), i + 1 + m = N → m < n → ∃ k2 f2 m2, fX10_leaves_L12 p1 n (nI i) (nI N) ki fi mi hk = fX10_leaves_J70 p1 (nI N) k2 f2 m2 hk ∧ ∀ x, (k2 x = if i ≤ x ∧ x + 1 < N then ki (x + 1) else ki x) ∧ (f2 x = if i ≤ x ∧ x + 1 < N then fi (x + 1) else fi x) ∧ (m2 x = if i ≤ x ∧ x + 1 < N then mi (x + 1) else mi x) := by
  intro m
  induction m with
  | zero =>
    intro n i ki fi mi h1 h2
    obtain ⟨n, rfl⟩ : ∃ k, n = k + 1 := ⟨n - 1, by omega⟩
    rw [fX10_leaves_L12]
    refine ⟨ki, fi, mi, ?_, fun x => ?_⟩
    · simp (disch := omega) only [zlit, zz, if_pos, if_neg, if_true, if_false, zgd', zl, zbs, zbz, encz]
    · rw [if_neg (by omega), if_neg (by omega), if_neg (by omega)]
      exact ⟨rfl, rfl, rfl⟩
  | succ m ih =>
    intro n i ki fi mi h1 h2
    obtain ⟨n, rfl⟩ : ∃ k, n = k + 1 := ⟨n - 1, by omega⟩
    rw [fX10_leaves_L12]
    obtain ⟨k2, f2, m2, e1, e2⟩ := ih n (i + 1) (upd ki i (ki (i + 1))) (upd fi i (fi (i + 1))) (upd mi i (mi (i + 1))) (by omega) (by omega)
    refine ⟨k2, f2, m2, ?_, fun x => ?_⟩
    · rw [← e1]
      simp (disch := omega) only [zlit, zz, if_pos, if_neg, if_true, if_false, zgd', zl, zbs, zbz, encz]
    · obtain ⟨f1, f2, f3⟩ := e2 x
      rw [f1, f2, f3]
      exact ⟨shift_upd (by omega) ki, shift_upd (by omega) fi, shift_upd (by omega) mi⟩
theorem u_leaves {r : SR} (fuel : Nat) (d_guests : Int32) (d_kinds : Nat → Int32) (d_figures : Nat → Int32) (d_minutes : Nat → Int32) (d_hooks : Int32) (p1 : Int32) (M_guests : Int32) (M_kind : Nat → Int32) (M_figure : Nat → Int32) (M_told : Nat → Int32) (M_hooks : Int32) (d_settings : Nat → Int32) (d_letters : Nat → Int32) (d_letterCount : Int32) (M_heaps : Int32) (M_holds : Int32) (M_back : Int32) (M_mistakes : Int32) (M_letters : Int32) (M_rule : Nat → Int32) (hf : 100 < fuel) (hr : okT r) (hc : cR r d_guests d_kinds d_figures d_minutes d_settings d_hooks d_letters d_letterCount) (hm : mR r M_guests M_kind M_figure M_told M_heaps M_holds M_back M_mistakes M_hooks M_letters M_rule) : ∃ o p r', fX9_leaves fuel d_guests d_kinds d_figures d_minutes d_hooks p1 = some o ∧ fX10_leaves fuel M_guests M_kind M_figure M_told M_hooks p1 = some p ∧ o.1 = p.1 ∧ okT r' ∧ cR r' o.2.1 o.2.2.1 o.2.2.2.1 o.2.2.2.2.1 d_settings o.2.2.2.2.2 d_letters d_letterCount ∧ mR r' p.2.1 p.2.2.1 p.2.2.2.1 p.2.2.2.2.1 M_heaps M_holds M_back M_mistakes p.2.2.2.2.2 M_letters M_rule := by
  have hN := hr.1.1
  have hhk := okT_hk hr
  unfold fX9_leaves fX10_leaves
  have e0 : (0 : Int32) = nI 0 := rfl
  rw [e0]
  rcases gcase (fuel := fuel) hN p1 with ⟨g, hg, rfl, a1, a2⟩ | ⟨a1, a2⟩
  · rw [← hc.1] at a1
    rw [← hm.1] at a2
    rw [a1, a2, zbs, zbs, if_neg z10, if_neg z10]
    obtain ⟨o, o1, o2, o3⟩ := sX5_dismiss (fuel := fuel) hf hr.1 hhk hg hc
    obtain ⟨m1, m2, m3, m4, m5, m6, m7, m8, m9⟩ := hm
    subst m1 m7
    obtain ⟨k2, f2, t2, x1, x2⟩ := sX10_leaves_L12 (p1 := nI g) (hk := nI (rHk r)) hN (rN r - 1 - g) fuel g M_kind M_figure M_told (by omega) (by omega)
    rw [o1, zbs, x1]
    unfold fX10_leaves_J70
    have hsub : nI (rN r) - 1 = nI (rN r - 1) := nI_sub (a := rN r) (b := 1) (by omega)
    rw [zl, zl, zl, zl, zleave g (by omega) _ hhk, hsub]
    exact ⟨_, _, rLeave r g, rfl, rfl, o2, ok_leave hr hg, o3, rfl, kfm_leave hg m2 x2, m3, m4, m5, m6, rfl, m8, m9⟩
  · rw [← hc.1] at a1
    rw [← hm.1] at a2
    rw [a1, a2, zbs, zbs, if_pos z00, if_pos z00]
    exact ⟨_, _, r, rfl, rfl, rfl, hr, hc, hm⟩
