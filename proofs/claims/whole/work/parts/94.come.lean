/-! The calls: comes, copy. -/
def rCome (r : SR) (k f v : Nat) : SR := (rN r + 1, va_up (rK r) (rN r) k, va_up (rF r) (rN r) f, va_up (rM r) (rN r) v, rHp r, rHo r, rBa r, rMi r, rHk r, rL r)
theorem ok_come {r : SR} {k f v : Nat} (hr : okT r) (hN : rN r < 10) (hk : k ≤ 7) (hf : f ≤ 9) (hv : v < 100) : okT (rCome r k f v) := by
  obtain ⟨⟨a1, a2, a3⟩, b, c, d⟩ := hr
  refine ⟨⟨by show rN r + 1 ≤ 10; omega, fun i hi => ?_, a3⟩, fun i hi => ?_, ?_, d⟩
  · have hi' : i < rN r + 1 := hi
    show va_up (rK r) (rN r) k i ≤ 7 ∧ va_up (rF r) (rN r) f i ≤ 9 ∧ va_up (rM r) (rN r) v i < 200
    unfold va_up
    by_cases q : i = rN r
    · simp only [q, if_true]; omega
    · simp only [q, if_false]; exact a2 i (by omega)
  · have hi' : i < rN r + 1 := hi
    show va_up (rM r) (rN r) v i < 100
    unfold va_up
    by_cases q : i = rN r
    · simp only [q, if_true]; omega
    · simp only [q, if_false]; exact b i (by omega)
  · show rHk r < 2 ^ (rN r + 1)
    rw [Nat.pow_succ]
    omega
theorem kfm_come {N k f v : Nat} {K F M : Nat → Nat} {ki fi mi : Nat → Int32} (hk : k ≤ 7) (hf : f ≤ 9) (hv : v < 200) (h : kfm N K F M ki fi mi) : kfm (N + 1) (va_up K N k) (va_up F N f) (va_up M N v) (upd ki N (nI k)) (upd fi N (nI f)) (upd mi N (nI v)) := by
  intro i hi
  unfold upd va_up
  by_cases q : i = N
  · simp only [q, if_true]; exact ⟨trivial, hk, trivial, hf, trivial, hv⟩
  · simp only [q, if_false]; exact h i (by omega)
theorem u_comes {r : SR} (fuel : Nat) (s_holds : Nat → Int32) (s_kind : Nat → Int32) (s_figure : Nat → Int32) (d_guests : Int32) (d_kinds : Nat → Int32) (d_figures : Nat → Int32) (d_minutes : Nat → Int32) (p1 : Int32) (p2 : Int32) (M_guests : Int32) (M_kind : Nat → Int32) (M_figure : Nat → Int32) (M_told : Nat → Int32) (M_held : Nat → Int32) (M_kindOn : Nat → Int32) (M_figureOn : Nat → Int32) (d_settings : Nat → Int32) (d_hooks : Int32) (d_letters : Nat → Int32) (d_letterCount : Int32) (M_heaps : Int32) (M_holds : Int32) (M_back : Int32) (M_mistakes : Int32) (M_hooks : Int32) (M_letters : Int32) (M_rule : Nat → Int32) (s_sort : Nat → Int32) (s_size : Nat → Int32) (s_el : Nat → Nat → Int32) (M_sorts : Nat → Int32) (M_size : Nat → Int32) (M_items : Nat → Int32) (hr : okT r) (hc : cR r d_guests d_kinds d_figures d_minutes d_settings d_hooks d_letters d_letterCount) (hm : mR r M_guests M_kind M_figure M_told M_heaps M_holds M_back M_mistakes M_hooks M_letters M_rule) (hs : cSH s_holds s_kind s_figure s_sort s_size s_el M_held M_kindOn M_figureOn M_sorts M_size M_items) : ∃ o p r', fX9_comes fuel s_holds s_kind s_figure d_guests d_kinds d_figures d_minutes p1 p2 = some o ∧ fX10_comes fuel M_guests M_kind M_figure M_told M_held M_kindOn M_figureOn p1 p2 = some p ∧ o.1 = p.1 ∧ okT r' ∧ cR r' o.2.1 o.2.2.1 o.2.2.2.1 o.2.2.2.2 d_settings d_hooks d_letters d_letterCount ∧ mR r' p.2.1 p.2.2.1 p.2.2.2.1 p.2.2.2.2 M_heaps M_holds M_back M_mistakes M_hooks M_letters M_rule := by
  have hN := hr.1.1
  have e0 : (0 : Int32) = nI 0 := rfl
  have e1 : (1 : Int32) = nI 1 := rfl
  have e10 : (10 : Int32) = nI 10 := rfl
  have e99 : (99 : Int32) = nI 99 := rfl
  unfold fX9_comes fX10_comes
  rw [e0, e1, e10, e99]
  rcases shcase (fuel := fuel) p1 with ⟨d, hd, rfl, a1, a2⟩ | ⟨a1, a2⟩
  · have hz : zin (nI d) 8 = true := by rw [zin_nI (by omega)]; exact decide_eq_true hd
    have hcl : (nI d).toNatClampNeg = d := nI_clamp (by omega)
    rw [a1, a2, zbs, zbs, if_neg z10, if_neg z10, sX9_isMinute, sX10_isIn, zbs, zbs]
    rcases bcase (p := p2) (m := 99) (by decide) with ⟨v, hv, rfl, hdv⟩ | hdv
    · rw [hdv]
      have ht : ¬ zb01 true = nI 0 := z10
      rw [if_neg ht, if_neg ht]
      obtain ⟨h, h2, h3, h4, h5, h6⟩ := hs d hd
      rw [sX9_refusalOf hd h3 h2 (by omega) a1, zbs, hz, zgt, zgt, hcl, h4]
      rcases (show h = 0 ∨ h = 1 ∨ h = 2 by omega) with rfl | rfl | rfl
      · exact ⟨_, _, r, rfl, rfl, rfl, hr, hc, hm⟩
      · obtain ⟨k, f, k1, k2, k3, k4, k5, k6⟩ := h5 rfl
        rw [if_neg (show ¬ 1 = 0 by omega), if_pos rfl, if_pos z00, if_pos (show nI 1 = nI 1 from rfl), k3, k4, k5, k6, hc.1, hm.1]
        unfold fX5_welcome fX10_guestIs
        by_cases q : rN r < 10
        · have hsub : nI (rN r + 1) - nI 1 = nI (rN r) := nI_sub (a := rN r + 1) (b := 1) (by omega)
          simp (disch := omega) only [zlit, zz, if_pos, if_neg, if_true, if_false, zgd', zl, zbs, zbz, encz, hsub]
          exact ⟨_, _, rCome r k f v, rfl, rfl, rfl, ok_come hr q k1 k2 (by omega), ⟨rfl, kfm_come k1 k2 (by omega) hc.2.1, hc.2.2⟩, ⟨rfl, kfm_come k1 k2 (by omega) hm.2.1, hm.2.2⟩⟩
        · have e : rN r = 10 := by omega
          simp (disch := omega) only [zlit, zz, if_pos, if_neg, if_true, if_false, zgd', zl, zbs, zbz, encz, e]
          refine ⟨_, _, r, rfl, rfl, rfl, hr, ?_, ?_⟩
          · show cR r (nI 10) _ _ _ _ _ _ _
            rw [← e, ← hc.1]; exact hc
          · show mR r (nI 10) _ _ _ _ _ _ _ _ _ _
            rw [← e, ← hm.1]; exact hm
      · exact ⟨_, _, r, rfl, rfl, rfl, hr, hc, hm⟩
    · rw [hdv]
      have ht : zb01 false = nI 0 := rfl
      rw [if_pos ht, if_pos ht]
      exact ⟨_, _, r, rfl, rfl, rfl, hr, hc, hm⟩
  · rw [a1, a2, zbs, zbs, if_pos z00, if_pos z00]
    exact ⟨_, _, r, rfl, rfl, rfl, hr, hc, hm⟩
theorem sX10_copy_L159 {e j N : Nat} {mo : Nat → Int32} (he : e < 8) (hj : j + N ≤ 100) : ∀ (m n k : Nat) (it : Nat → Int32), k + m = N → m < n → ∃ it2, fX10_copy_L159 (nI e) (nI j) (nI N) n (nI k) it mo = some (nI N, it2, mo) ∧ ∀ x, it2 x = if 100 * e + j + k ≤ x ∧ x < 100 * e + j + N then mo (x - (100 * e + j)) else it x := by
  intro m
  induction m with
  | zero =>
    intro n k it h1 h2
    obtain ⟨n, rfl⟩ : ∃ k, n = k + 1 := ⟨n - 1, by omega⟩
    rw [fX10_copy_L159]
    refine ⟨it, ?_, fun x => ?_⟩
    · simp (disch := omega) only [zlit, zz, if_pos, if_neg, if_true, if_false, zgd', zl, zbs, zbz, encz]
    · rw [if_neg (by omega)]
  | succ m ih =>
    intro n k it h1 h2
    obtain ⟨n, rfl⟩ : ∃ k, n = k + 1 := ⟨n - 1, by omega⟩
    rw [fX10_copy_L159]
    obtain ⟨it2, f1, f2⟩ := ih n (k + 1) (upd it (100 * e + j + k) (mo k)) (by omega) (by omega)
    refine ⟨it2, ?_, fun x => ?_⟩
    · rw [← f1]
      have e100 : (100 : Int32) = nI 100 := rfl
      simp (disch := omega) only [zlit, zz, if_pos, if_neg, if_true, if_false, zgd', zl, zbs, zbz, encz]
    · rw [f2 x]
      simp only [upd]
      repeat' split
      all_goals first | rfl | omega | (congr 1; omega)
theorem sX10_copy_L122 {fuel d i e j N : Nat} {it : Nat → Int32} (hd : d < 8) (hi : i + N ≤ 100) : ∀ (m n k : Nat) (mo : Nat → Int32), k + m = N → m < n → ∃ mo2, fX10_copy_L122 fuel (nI d) (nI i) (nI e) (nI j) (nI N) n (nI k) it mo = fX10_copy_J156 fuel (nI e) (nI j) (nI N) it mo2 ∧ ∀ x, x < N → mo2 x = if k ≤ x then it (100 * d + i + x) else mo x := by
  intro m
  induction m with
  | zero =>
    intro n k mo h1 h2
    obtain ⟨n, rfl⟩ : ∃ k, n = k + 1 := ⟨n - 1, by omega⟩
    rw [fX10_copy_L122]
    refine ⟨mo, ?_, fun x hx => ?_⟩
    · simp (disch := omega) only [zlit, zz, if_pos, if_neg, if_true, if_false, zgd', zl, zbs, zbz, encz]
    · rw [if_neg (by omega)]
  | succ m ih =>
    intro n k mo h1 h2
    obtain ⟨n, rfl⟩ : ∃ k, n = k + 1 := ⟨n - 1, by omega⟩
    rw [fX10_copy_L122]
    obtain ⟨mo2, f1, f2⟩ := ih n (k + 1) (upd mo k (it (100 * d + i + k))) (by omega) (by omega)
    refine ⟨mo2, ?_, fun x hx => ?_⟩
    · rw [← f1]
      simp (disch := omega) only [zlit, zz, if_pos, if_neg, if_true, if_false, zgd', zl, zbs, zbz, encz]
    · rw [f2 x hx]
      simp only [upd]
      repeat' split
      all_goals first | rfl | omega | (congr 1; omega)
theorem u_copy (fuel : Nat) (s_holds : Nat → Int32) (s_sort : Nat → Int32) (s_size : Nat → Int32) (s_el : Nat → Nat → Int32) (p1 : Int32) (p2 : Int32) (p3 : Int32) (p4 : Int32) (p5 : Int32) (M_held : Nat → Int32) (M_sorts : Nat → Int32) (M_size : Nat → Int32) (M_items : Nat → Int32) (M_moved : Nat → Int32) (s_kind : Nat → Int32) (s_figure : Nat → Int32) (M_kindOn : Nat → Int32) (M_figureOn : Nat → Int32) (hf : 1000 < fuel) (hs : cSH s_holds s_kind s_figure s_sort s_size s_el M_held M_kindOn M_figureOn M_sorts M_size M_items) : ∃ o p, fX9_copy fuel s_holds s_sort s_size s_el p1 p2 p3 p4 p5 = some o ∧ fX10_copy fuel M_held M_sorts M_size M_items M_moved p1 p2 p3 p4 p5 = some p ∧ o.1 = p.1 ∧ cSH s_holds s_kind s_figure s_sort s_size o.2 M_held M_kindOn M_figureOn M_sorts M_size p.2.1 := by
  have e0 : (0 : Int32) = nI 0 := rfl
  have e1 : (1 : Int32) = nI 1 := rfl
  have e2 : (2 : Int32) = nI 2 := rfl
  unfold fX9_copy fX10_copy
  rw [e0, e1, e2]
  rcases shcase (fuel := fuel) p1 with ⟨d, hd, rfl, a1, a2⟩ | ⟨a1, a2⟩
  · rw [a1, a2, zbs, zbs, if_neg z10, if_neg z10]
    rcases shcase (fuel := fuel) p3 with ⟨e, he, rfl, b1, b2⟩ | ⟨b1, b2⟩
    · have hz : zin (nI d) 8 = true := by rw [zin_nI (by omega)]; exact decide_eq_true hd
      have hcl : (nI d).toNatClampNeg = d := nI_clamp (by omega)
      have hze : zin (nI e) 8 = true := by rw [zin_nI (by omega)]; exact decide_eq_true he
      have hcle : (nI e).toNatClampNeg = e := nI_clamp (by omega)
      obtain ⟨h, h2, h3, h4, -, h6⟩ := hs d hd
      obtain ⟨g, g2, g3, g4, -, g6⟩ := hs e he
      rw [b1, b2, zbs, zbs, if_neg z10, if_neg z10, hz, zgt, zgt, hze, zgt, zgt, hcl, hcle, h3, h4, g3, g4]
      rcases (show h = 0 ∨ h = 1 ∨ h = 2 by omega) with rfl | rfl | rfl
      · exact ⟨_, _, rfl, rfl, rfl, hs⟩
      · rcases (show g = 0 ∨ g = 1 ∨ g = 2 by omega) with rfl | rfl | rfl
        · exact ⟨_, _, rfl, rfl, rfl, hs⟩
        · exact ⟨_, _, rfl, rfl, rfl, hs⟩
        · exact ⟨_, _, rfl, rfl, rfl, hs⟩
      · rcases (show g = 0 ∨ g = 1 ∨ g = 2 by omega) with rfl | rfl | rfl
        · exact ⟨_, _, rfl, rfl, rfl, hs⟩
        · exact ⟨_, _, rfl, rfl, rfl, hs⟩
        · obtain ⟨s, n, k1, k2, k3, k4, k5, k6, k7⟩ := h6 rfl
          obtain ⟨s', n', l1, l2, l3, l4, l5, l6, l7⟩ := g6 rfl
          rw [if_neg (show ¬ nI 2 = nI 0 by decide), if_neg (show ¬ nI 2 = nI 0 by decide), if_pos (show nI 2 = nI 2 from rfl), if_pos (show nI 2 = nI 2 from rfl), if_neg (show ¬ nI 2 = nI 0 by decide), if_neg (show ¬ nI 2 = nI 0 by decide), if_neg (show ¬ nI 2 = nI 1 by decide), if_neg (show ¬ nI 2 = nI 1 by decide), k3, k4, l3, l4]
          by_cases qs : nI s = nI s'
          · rw [if_pos qs, if_pos qs, k6, l6]
            unfold fX7_hasStretch
            rw [k5, l5, e0, e1]
            rcases icase p2 with hp | ⟨i, hi, rfl⟩
            · by_cases q5 : p5 < nI 0
              · rw [if_pos hp, zbs, if_pos z00, if_pos q5]; exact ⟨_, _, rfl, rfl, rfl, hs⟩
              · rw [if_pos hp, zbs, if_pos z00, if_neg q5, if_pos hp]; exact ⟨_, _, rfl, rfl, rfl, hs⟩
            · have hin : ¬ nI i < nI 0 := by rw [nI_ltI hi (by decide)]; omega
              rw [if_neg hin]
              rcases icase p5 with hp | ⟨N, hN, rfl⟩
              · rw [if_pos hp, zbs, if_pos z00, if_pos hp]; exact ⟨_, _, rfl, rfl, rfl, hs⟩
              · have hNn : ¬ nI N < nI 0 := by rw [nI_ltI hN (by decide)]; omega
                simp only [hNn, hin, if_false]
                rcases icase p4 with hp | ⟨j, hj, rfl⟩
                · simp only [hp, if_true]
                  by_cases c1 : nI n < nI N
                  · rw [if_pos c1, zbs, if_pos z00]; exact ⟨_, _, rfl, rfl, rfl, hs⟩
                  · rw [if_neg c1]
                    by_cases c2 : nI n - nI N < nI i
                    · rw [if_pos c2, zbs, if_pos z00]; exact ⟨_, _, rfl, rfl, rfl, hs⟩
                    · rw [if_neg c2, zbs, if_neg z10, zbs, if_pos z00]; exact ⟨_, _, rfl, rfl, rfl, hs⟩
                · have hjn : ¬ nI j < nI 0 := by rw [nI_ltI hj (by decide)]; omega
                  simp only [hjn, if_false]
                  have x1 : (nI n < nI N) = (n < N) := propext (nI_ltI (by omega) hN)
                  have x2 : (nI n - nI N < nI i) = (n < i + N) := sub_lt' (by omega) hN hi
                  have x3 : (nI n - nI i < nI N) = (n < N + i) := sub_lt' (by omega) hi hN
                  have x4 : (nI n' < nI N) = (n' < N) := propext (nI_ltI (by omega) hN)
                  have x5 : (nI n' - nI N < nI j) = (n' < j + N) := sub_lt' (by omega) hN hj
                  have x6 : (nI N ≤ nI n' - nI j) = (N + j ≤ n') := le_sub' (by omega) hj hN
                  simp only [x1, x2, x3, x4, x5, x6]
                  by_cases c1 : n < i + N
                  · have : (if n < N then some (nI 0) else if n < i + N then some (nI 0) else some (nI 1)) = some (nI 0) := by
                      by_cases q : n < N
                      · rw [if_pos q]
                      · rw [if_neg q, if_pos c1]
                    rw [this, zbs, if_pos z00, if_pos (show n < N + i by omega)]; exact ⟨_, _, rfl, rfl, rfl, hs⟩
                  · rw [if_neg (show ¬ n < N by omega), if_neg c1, zbs, if_neg z10, if_neg (show ¬ n < N + i by omega)]
                    by_cases c2 : n' < j + N
                    · have : (if n' < N then some (nI 0) else if n' < j + N then some (nI 0) else some (nI 1)) = some (nI 0) := by
                        by_cases q : n' < N
                        · rw [if_pos q]
                        · rw [if_neg q, if_pos c2]
                      rw [this, zbs, if_pos z00, if_neg (show ¬ N + j ≤ n' by omega)]; exact ⟨_, _, rfl, rfl, rfl, hs⟩
                    · rw [if_neg (show ¬ n' < N by omega), if_neg c2, zbs, if_neg z10, if_pos (show N + j ≤ n' by omega)]
                      have ci : (nI i).toNatClampNeg = i := nI_clamp hi
                      have cj : (nI j).toNatClampNeg = j := nI_clamp hj
                      have cN : (nI N).toNatClampNeg = N := nI_clamp hN
                      rw [ci, cj, cN, zgd' ⟨id, id, id, by omega, by omega⟩, zl]
                      obtain ⟨mo2, y1, y2⟩ := sX10_copy_L122 (fuel := fuel) (e := e) (j := j) (it := M_items) hd (show i + N ≤ 100 by omega) N fuel 0 M_moved (by omega) (by omega)
                      rw [y1]
                      unfold fX10_copy_J156
                      obtain ⟨it2, z1, z2⟩ := sX10_copy_L159 (mo := mo2) he (show j + N ≤ 100 by omega) N fuel 0 M_items (by omega) (by omega)
                      rw [e0, z1]
                      refine ⟨_, _, rfl, rfl, rfl, fun x hx => ?_⟩
                      obtain ⟨h', h2', h3', h4', h5', h6'⟩ := hs x hx
                      refine ⟨h', h2', h3', h4', h5', fun h1 => ?_⟩
                      obtain ⟨s3, n3, r1, r2, r3, r4, r5, r6, r7⟩ := h6' h1
                      refine ⟨s3, n3, r1, r2, r3, r4, r5, r6, fun t ht => ?_⟩
                      show va_up s_el e (va_cpy (s_el d) (s_el e) i j N) x t = it2 (100 * x + t)
                      rw [z2]
                      unfold va_up
                      by_cases q : x = e
                      · subst q
                        rw [if_pos rfl]
                        unfold va_cpy
                        by_cases q2 : j ≤ t ∧ t < j + N
                        · rw [if_pos q2, if_pos (by omega), y2 _ (by omega), if_pos (Nat.zero_le _), k7 _ (by omega)]
                          congr 1
                          omega
                        · rw [if_neg q2, if_neg (by omega)]
                          exact r7 t ht
                      · rw [if_neg q, if_neg (by omega)]
                        exact r7 t ht
          · rw [if_neg qs, if_neg qs]; exact ⟨_, _, rfl, rfl, rfl, hs⟩
    · rw [b1, b2, zbs, zbs, if_pos z00, if_pos z00]
      exact ⟨_, _, rfl, rfl, rfl, hs⟩
  · rw [a1, a2, zbs, zbs, if_pos z00, if_pos z00]
    exact ⟨_, _, rfl, rfl, rfl, hs⟩
