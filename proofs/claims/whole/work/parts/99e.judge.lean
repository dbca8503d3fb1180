/-! The call: judge. -/
theorem zset2 : ∀ g, g < 10 → ∀ v, v < 1024 → hangS v g = false → nI v ||| (nI 1 <<< (nI g &&& 31)) = nI (v + 2 ^ g) ∧ v + 2 ^ g < 1024 ∧ ∀ x, x < 10 → hangS (v + 2 ^ g) x = (decide (x = g) || hangS v x) := by decide +kernel
/-- some have gone (bits B) from a laying; both say so -/
def jd (N : Nat) (wh : Nat → Nat) (B : Nat) (H : HP) (pi : Nat → Nat → Int32) (hts sps pl hi wr : Nat → Int32) : Prop :=
  cB H pi hts ∧ mB H pl hi ∧ okH N H ∧ B < 1024 ∧ (∀ x, x < N → sps x = (if hangS B x = true then zAw else encW (wh x))) ∧ (∀ x, x < N → wr x = encW (wh x)) ∧ (∀ x, x < N → hangS B x = false → wh x < 3 → x ∈ H (wh x)) ∧ (∀ x, x < N → wh x < 3 ∨ wh x = 9 ∨ wh x = 10)
theorem sX0_give {fuel N B g : Nat} {wh : Nat → Nat} {H : HP} {pi : Nat → Nat → Int32} {hts sps pl hi wr : Nat → Int32} (hf : 100 < fuel) (hN : N ≤ 10) (hg : g < N) (hj : jd N wh B H pi hts sps pl hi wr) :
    (hangS B g = true ∧ fX0_giveIfFree fuel pi hts sps (nI g) = some (nI 0, pi, hts, sps)) ∨
    (hangS B g = false ∧ 9 ≤ wh g ∧ fX0_giveIfFree fuel pi hts sps (nI g) = some (nI 1, pi, hts, upd sps g zAw) ∧ jd N wh (B + 2 ^ g) H pi hts (upd sps g zAw) pl hi wr) ∨
    (hangS B g = false ∧ wh g < 3 ∧ ∃ c base, H (wh g) = base ++ [c] ∧ ((c ≠ g ∧ fX0_giveIfFree fuel pi hts sps (nI g) = some (nI 0, pi, hts, sps)) ∨
      (c = g ∧ ∃ pi', fX0_giveIfFree fuel pi hts sps (nI g) = some (nI 1, pi', upd hts (wh g) (nI base.length), upd sps g zAw) ∧ jd N wh (B + 2 ^ g) (va_up H (wh g) base) pi' (upd hts (wh g) (nI base.length)) (upd sps g zAw) pl (upd hi (wh g) (nI base.length)) wr))) := by
  obtain ⟨j1, j2, j3, j4, j5, j6, j7, j8⟩ := hj
  have hsg := j5 g hg
  have e0 : (0 : Int32) = nI 0 := rfl
  have e1 : (1 : Int32) = nI 1 := rfl
  have em : (-1 : Int32) = zAw := rfl
  unfold fX0_giveIfFree
  rw [sX0_isFree (by omega)]
  cases hb : hangS B g with
  | true =>
    left
    rw [hb, if_pos rfl] at hsg
    refine ⟨rfl, ?_⟩
    have hd : decide (sps g = nI 9 ∨ sps g = zNo) = false := by rw [hsg]; decide
    rw [hd, zbs, sX0_isOnHeap (by omega) (Or.inl hsg)]
    have hd2 : decide (nI 0 ≤ sps g ∧ sps g < nI 3) = false := by rw [hsg]; decide
    rw [hd2]
    simp (disch := omega) only [zlit, zz, if_pos, if_neg, if_true, if_false, zgd', zl, zbs, zbz, encz]
  | false =>
    right
    rw [hb, if_neg (by decide)] at hsg
    obtain ⟨z1, z2, z3⟩ := zset2 g (by omega) B j4 hb
    have hsp : ∀ x, x < N → upd sps g zAw x = (if hangS (B + 2 ^ g) x = true then zAw else encW (wh x)) := fun x hx => by
      rw [z3 x (by omega)]
      unfold upd
      by_cases q : x = g
      · simp [q]
      · simp only [q, if_false, decide_false, Bool.false_or]
        exact j5 x hx
    have hnot : ∀ x, x < N → hangS (B + 2 ^ g) x = false → x ≠ g ∧ hangS B x = false := fun x hx h => by
      rw [z3 x (by omega)] at h
      simpa using h
    by_cases q9 : 9 ≤ wh g
    · left
      have hd : decide (sps g = nI 9 ∨ sps g = zNo) = true := by
        rw [hsg]
        rcases j8 g hg with h | h | h
        · omega
        · rw [h]; decide
        · rw [h]; decide
      refine ⟨rfl, q9, ?_, j1, j2, j3, z2, hsp, j6, fun x hx h h3 => j7 x hx (hnot x hx h).2 h3, j8⟩
      rw [hd, zbs, em, e0, if_neg (show ¬ zb01 true = nI 0 from z10)]
      simp (disch := omega) only [zlit, zz, if_pos, if_neg, if_true, if_false, zgd', zl, zbs, zbz, encz]
    · right
      have h3 : wh g < 3 := by rcases j8 g hg with h | h | h <;> omega
      have hmem := j7 g hg hb h3
      obtain ⟨c, hc⟩ : ∃ c, (H (wh g)).getLast? = some c := by
        cases h : (H (wh g)).getLast? with
        | none => rw [List.getLast?_eq_none_iff] at h; rw [h] at hmem; simp at hmem
        | some c => exact ⟨c, rfl⟩
      obtain ⟨base, hbase⟩ := List.getLast?_eq_some_iff.mp hc
      refine ⟨rfl, h3, c, base, hbase, ?_⟩
      have hsg' : sps g = nI (wh g) := by rw [hsg]; unfold encW; rw [if_neg (by omega)]
      have hd : decide (sps g = nI 9 ∨ sps g = zNo) = false := by
        rw [hsg']
        refine decide_eq_false (fun h => ?_)
        rcases h with h | h
        · have := (nI_eq (by omega) (by decide)).mp h; omega
        · exact nI_m4 (by omega) h
      have hd2 : decide (nI 0 ≤ sps g ∧ sps g < nI 3) = true := by
        rw [hsg']
        exact decide_eq_true ⟨(nI_leI (by decide) (by omega)).mpr (Nat.zero_le _), (nI_ltI (by omega) (by decide)).mpr h3⟩
      have hcN : c < N := (j3 (wh g)).2 c (by rw [hbase]; simp)
      have hlen := (j3 (wh g)).1
      have hlen2 : (H (wh g)).length = base.length + 1 := by rw [hbase]; simp
      rw [hd, zbs, sX0_isOnHeap (by omega) (Or.inr (Or.inr ⟨wh g, by omega, hsg'⟩)), hd2]
      have htop := sX0_topOf (fuel := fuel) hN j1 j3 h3
      rw [hc] at htop
      by_cases qc : c = g
      · right
        subst qc
        obtain ⟨pi', t1, t2⟩ := sX0_takeOut (fuel := fuel) (sps := sps) (above := []) hf h3 j1 hbase hlen (by omega)
        rw [List.length_nil, Nat.add_zero] at t1 t2
        rw [List.append_nil] at t2
        refine ⟨rfl, pi', ?_, t2, ?_, ?_, z2, hsp, j6, ?_, j8⟩
        · have hh := (j1 (wh c) h3).1
          simp (disch := omega) only [zlit, zz, if_pos, if_neg, if_true, if_false, zgd', zl, zbs, zbz, encz, hsg', htop, hh, hlen2]
          rw [show base.length + 1 - 1 = base.length by omega, t1]
          simp (disch := omega) only [zlit, zz, if_pos, if_neg, if_true, if_false, zgd', zl, zbs, zbz, encz]
        · intro k hk
          obtain ⟨b1, b2⟩ := j2 k hk
          unfold va_up upd
          by_cases q : k = wh c
          · simp only [q, if_true]
            refine ⟨trivial, fun i x hx => ?_⟩
            rw [q] at b2
            exact b2 i x (by rw [hbase, List.getElem?_append_left (List.getElem?_eq_some_iff.mp hx).1]; exact hx)
          · simp only [q, if_false]
            exact ⟨b1, b2⟩
        · intro k
          unfold va_up
          by_cases q : k = wh c
          · simp only [q, if_true]
            exact ⟨by omega, fun x hx => (j3 (wh c)).2 x (by rw [hbase]; exact List.mem_append_left _ hx)⟩
          · simp only [q, if_false]
            exact j3 k
        · intro x hx h hx3
          obtain ⟨n1, n2⟩ := hnot x hx h
          have := j7 x hx n2 hx3
          unfold va_up
          by_cases q : wh x = wh c
          · simp only [q, if_true]
            rw [q, hbase, List.mem_append] at this
            rcases this with h | h
            · exact h
            · simp at h; exact absurd h n1
          · simp only [q, if_false]
            exact this
      · left
        refine ⟨qc, ?_⟩
        simp (disch := omega) only [zlit, zz, if_pos, if_neg, if_true, if_false, zgd', zl, zbs, zbz, encz, hsg', htop]
theorem u_judge_L {N n d : Nat} {wh : Nat → Nat} (fuel : Nat) (s_size : Nat → Int32) (s_el : Nat → Nat → Int32) (d_guests : Int32) (ad_d : Nat → Nat) (p1 : Int32) (M_guests : Int32) (M_size : Nat → Int32) (M_items : Nat → Int32) (hf : 100 < fuel) (hN : N ≤ 10) (hd : d < 8) (hp : p1 = nI d) (hg : d_guests = nI N) (hmg : M_guests = nI N) (hn : n ≤ 100) (hs : s_size d = nI n) (hms : M_size d = nI n) (hel : ∀ i, i < 100 → s_el d i = M_items (100 * d + i)) :
    ∀ (m w i B : Nat) (H : HP) (n_order : Nat → Int32) (n_weights : Nat → Int32) (n_black : Nat → Int32) (y_going : Nat → Int32) (y_coming : Nat → Int32) (y_holds : Int32) (y_latest : Int32) (b_heaps : Int32) (b_piles : Nat → Nat → Int32) (b_heights : Nat → Int32) (b_spots : Nat → Int32) (M_coming : Nat → Int32) (M_comingMany : Int32) (M_going : Nat → Int32) (M_goingMany : Int32) (M_minute : Nat → Int32) (M_pile : Nat → Int32) (M_high : Nat → Int32) (M_where : Nat → Int32) (M_latest : Int32), i + m = n → m < w → jd N wh B H b_piles b_heights b_spots M_pile M_high M_where →
      ∃ o p, fX9_judge_L29 fuel s_size s_el d_guests ad_d p1 w (nI i) n_order n_weights n_black y_going y_coming y_holds y_latest b_heaps b_piles b_heights b_spots = some o ∧ fX10_judge_L48 fuel M_guests M_size M_items p1 w (nI B) (nI i) M_coming M_comingMany M_going M_goingMany M_minute M_pile M_high M_where M_latest = some p ∧ o.1 = p.1 := by
  subst hp hg hmg
  intro m
  induction m with
  | zero =>
    intro w i B H n_order n_weights n_black y_going y_coming y_holds y_latest b_heaps b_piles b_heights b_spots M_coming M_comingMany M_going M_goingMany M_minute M_pile M_high M_where M_latest h1 h2 hj
    obtain ⟨w, rfl⟩ : ∃ k, w = k + 1 := ⟨w - 1, by omega⟩
    rw [fX9_judge_L29, fX10_judge_L48]
    simp (disch := omega) only [zlit, zz, if_pos, if_neg, if_true, if_false, zgd', zl, zbs, zbz, encz, hs, hms]
    exact ⟨_, _, rfl, rfl, rfl⟩
  | succ m ih =>
    intro w i B H n_order n_weights n_black y_going y_coming y_holds y_latest b_heaps b_piles b_heights b_spots M_coming M_comingMany M_going M_goingMany M_minute M_pile M_high M_where M_latest h1 h2 hj
    obtain ⟨w, rfl⟩ : ∃ k, w = k + 1 := ⟨w - 1, by omega⟩
    have hv := hel i (by omega)
    rw [fX9_judge_L29, fX10_judge_L48]
    simp (disch := omega) only [zlit, zz, if_pos, if_neg, if_true, if_false, zgd', zl, zbs, zbz, encz, hs, hms]
    rw [← hv]
    rcases gcase (fuel := fuel) hN (s_el d i) with ⟨g, hg, hge, a1, a2⟩ | ⟨a1, a2⟩
    · rw [a1, a2, zbs, zbs, if_neg z10, if_neg z10, hge]
      have hB := hj.2.2.2.1
      have hwr := hj.2.2.2.2.2.1 g hg
      have hbit : (nI B >>> (nI g &&& 31)) &&& nI 1 = nI (B / 2 ^ g % 2) := zbit (by omega) (by omega)
      rcases sX0_give (fuel := fuel) hf hN hg hj with ⟨b1, b2⟩ | ⟨b1, b3, b2, b4⟩ | ⟨b1, b3, c, base, b4, b5⟩
      · have : B / 2 ^ g % 2 = 1 := by simpa [hangS] using b1
        rw [b2, zbs, hbit, this]
        simp (disch := omega) only [zlit, zz, if_pos, if_neg, if_true, if_false, zgd', zl, zbs, zbz, encz]
        exact ⟨_, _, rfl, rfl, rfl⟩
      · have hb0 : ¬ B / 2 ^ g % 2 = 1 := by simpa [hangS] using b1
        have hml := Nat.mod_lt (B / 2 ^ g) (show 0 < 2 by omega)
        have hz := (zset2 g (by omega) B hB b1).1
        have hin : decide (nI 0 ≤ encW (wh g) ∧ encW (wh g) ≤ nI 2) = false := by
          rcases hj.2.2.2.2.2.2.2 g hg with h | h | h
          · omega
          · rw [h]; decide
          · rw [h]; decide
        rw [b2, zbs, hbit, if_neg z10, if_neg (fun h => hb0 ((nI_eq (by omega) (by decide)).mp h))]
        simp (disch := omega) only [zlit, zz, if_pos, if_neg, if_true, if_false, zgd', zl, zbs, zbz, encz, hz, hwr, sX10_isIn, hin, fX10_judge_J156]
        exact ih w (i + 1) _ H _ _ _ _ _ _ _ _ _ _ _ _ _ _ _ _ _ _ _ _ (by omega) (by omega) b4
      · have hb0 : ¬ B / 2 ^ g % 2 = 1 := by simpa [hangS] using b1
        have hml := Nat.mod_lt (B / 2 ^ g) (show 0 < 2 by omega)
        have hz := (zset2 g (by omega) B hB b1).1
        have hew : encW (wh g) = nI (wh g) := by unfold encW; rw [if_neg (by omega)]
        have hin : decide (0 ≤ wh g ∧ wh g ≤ 2) = true := decide_eq_true ⟨Nat.zero_le _, by omega⟩
        have hhi := (hj.2.1 (wh g) b3).1
        have hlen := (hj.2.2.1 (wh g)).1
        have hlen2 : (H (wh g)).length = base.length + 1 := by rw [b4]; simp
        have hcN := (hj.2.2.1 (wh g)).2 c (by rw [b4]; simp)
        have hpl : M_pile (10 * wh g + (base.length + 1) - 1) = nI c := by
          have := (hj.2.1 (wh g) b3).2 base.length c (by rw [b4]; simp)
          rw [show 10 * wh g + (base.length + 1) - 1 = 10 * wh g + base.length by omega]
          exact this
        rw [hlen2] at hhi
        rcases b5 with ⟨b6, b7⟩ | ⟨b6, pi', b7, b8⟩
        · rw [b7, zbs, hbit, if_neg (fun h => hb0 ((nI_eq (by omega) (by decide)).mp h))]
          simp (disch := omega) only [zlit, zz, if_pos, if_neg, if_true, if_false, zgd', zl, zbs, zbz, encz, hz, hwr, hew, sX10_isIn, hin, hhi, hpl, reduceCtorEq]
          exact ⟨_, _, rfl, rfl, rfl⟩
        · subst b6
          rw [b7, zbs, hbit, if_neg z10, if_neg (fun h => hb0 ((nI_eq (by omega) (by decide)).mp h))]
          simp (disch := omega) only [zlit, zz, if_pos, if_neg, if_true, if_false, zgd', zl, zbs, zbz, encz, hz, hwr, hew, sX10_isIn, hin, hhi, hpl, fX10_judge_J156, Nat.add_sub_cancel, reduceCtorEq]
          exact ih w (i + 1) _ _ _ _ _ _ _ _ _ _ _ _ _ _ _ _ _ _ _ _ _ _ (by omega) (by omega) b8
    · rw [a1, a2, zbs, zbs, if_pos z00, if_pos z00]
      exact ⟨_, _, rfl, rfl, rfl⟩
theorem u_judge {r : SR} (fuel : Nat) (s_holds : Nat → Int32) (s_size : Nat → Int32) (s_el : Nat → Nat → Int32) (d_guests : Int32) (d_kinds : Nat → Int32) (d_figures : Nat → Int32) (d_minutes : Nat → Int32) (d_settings : Nat → Int32) (d_hooks : Int32) (d_letters : Nat → Int32) (d_letterCount : Int32) (n_room : Nat) (n_order : Nat → Int32) (n_weights : Nat → Int32) (n_black : Nat → Int32) (y_going : Nat → Int32) (y_coming : Nat → Int32) (y_holds : Int32) (y_latest : Int32) (b_heaps : Int32) (b_piles : Nat → Nat → Int32) (b_heights : Nat → Int32) (b_spots : Nat → Int32) (ad_d : Nat → Nat) (p1 : Int32) (M_guests : Int32) (M_kind : Nat → Int32) (M_figure : Nat → Int32) (M_told : Nat → Int32) (M_heaps : Int32) (M_holds : Int32) (M_hooks : Int32) (M_letters : Int32) (M_rule : Nat → Int32) (M_coming : Nat → Int32) (M_comingMany : Int32) (M_going : Nat → Int32) (M_goingMany : Int32) (M_minute : Nat → Int32) (M_pile : Nat → Int32) (M_high : Nat → Int32) (M_where : Nat → Int32) (M_latest : Int32) (M_held : Nat → Int32) (M_size : Nat → Int32) (M_items : Nat → Int32) (M_back : Int32) (M_mistakes : Int32) (s_kind : Nat → Int32) (s_figure : Nat → Int32) (s_sort : Nat → Int32) (M_kindOn : Nat → Int32) (M_figureOn : Nat → Int32) (M_sorts : Nat → Int32) (hf : 100 < fuel) (hr : okR r) (hc : cR r d_guests d_kinds d_figures d_minutes d_settings d_hooks d_letters d_letterCount) (hm : mR r M_guests M_kind M_figure M_told M_heaps M_holds M_back M_mistakes M_hooks M_letters M_rule) (hs : cSH s_holds s_kind s_figure s_sort s_size s_el M_held M_kindOn M_figureOn M_sorts M_size M_items) : ∃ o p, fX9_judge fuel s_holds s_size s_el d_guests d_kinds d_figures d_minutes d_settings d_hooks d_letters d_letterCount n_room n_order n_weights n_black y_going y_coming y_holds y_latest b_heaps b_piles b_heights b_spots ad_d p1 = some o ∧ fX10_judge fuel M_guests M_kind M_figure M_told M_heaps M_holds M_hooks M_letters M_rule M_coming M_comingMany M_going M_goingMany M_minute M_pile M_high M_where M_latest M_held M_size M_items p1 = some p ∧ o.1 = p.1 := by
  have hN := hr.1
  unfold fX9_judge fX10_judge
  have e0 : (0 : Int32) = nI 0 := rfl
  have e2 : (2 : Int32) = nI 2 := rfl
  rcases shcase (fuel := fuel) p1 with ⟨d, hd, rfl, a1, a2⟩ | ⟨a1, a2⟩
  · obtain ⟨h, k1, k2, k3, k4, k5⟩ := hs d hd
    rw [e2, sX9_refusalOf hd k2 k1 (by decide) a1, a2, zbs, zbs, e0, if_neg z10]
    have hz8 : zin (nI d) 8 = true := by rw [zin_nI (by omega)]; simpa using hd
    have hcl : (nI d).toNatClampNeg = d := nI_clamp (by omega)
    rw [hz8, zgt, hcl, k3]
    by_cases q2 : h = 2
    · obtain ⟨s, n, s1, s2, s3, s4, s5, s6, s7⟩ := k5 q2
      subst q2
      rw [if_neg (show ¬ 2 = 0 by decide), if_pos (show 2 = 2 from rfl), if_pos z00, if_pos (show nI 2 = nI 2 from rfl)]
      obtain ⟨y, y1, y2, y3, y4⟩ := sX9_laid fuel d_guests d_kinds d_figures d_minutes d_settings d_hooks d_letters d_letterCount n_order n_weights n_black y_going y_coming y_holds y_latest b_heaps b_piles b_heights b_spots hf hr hc
      obtain ⟨u, u1, u2, u3, u4, u5, u6⟩ := sX10_usualR hf hr hm M_coming M_comingMany M_going M_goingMany M_minute
      obtain ⟨w, w1, w2, w3⟩ := sX10_layR (fuel := fuel) hf hr ⟨M_told, hm⟩ u6 (okC_range hr) u2 M_pile M_high M_where M_latest
      rw [List.length_range] at w1
      rw [y1, u1, zbs, zbs, u3, w1, zbs, zgt]
      have hI := LI_C hr (okC_range hr)
      obtain ⟨i1, i2, i3, i4, i5⟩ := hI
      rw [List.length_range] at i5
      have hb0 : ∀ x, x < 10 → hangS 0 x = false := by decide
      have hhp := hr.2.2.2.1
      refine u_judge_L (N := rN r) (n := n) (d := d) (wh := (layR r (List.range (rN r))).2.2) fuel s_size s_el d_guests ad_d (nI d) M_guests M_size M_items hf hN hd rfl hc.1 hm.1 s2 s5 s6 s7 n fuel 0 0 (layR r (List.range (rN r))).1 _ _ _ _ _ _ _ _ _ _ _ _ _ _ _ _ _ _ _ _ (by omega) (by omega) ⟨y3, w2, fun k => ⟨?_, fun x hx => List.mem_range.mp ((i1 k x).mp hx).2.1⟩, by decide, fun x hx => ?_, fun x hx => w3 x (List.mem_range.mpr hx), fun x hx _ h3 => ?_, fun x hx => by rcases i3 x with h | h | h <;> omega⟩
      · by_cases k3 : k < 3
        · have := len_flat (H := (layR r (List.range (rN r))).1) k k3
          omega
        · cases q : (layR r (List.range (rN r))).1 k with
          | nil => simp
          | cons a l =>
            have := ((i1 k a).mp (by rw [q]; simp)).1
            omega
      · rw [hb0 x (by omega), if_neg (by decide)]
        exact y4 x hx
      · refine (i1 _ x).mpr ⟨?_, List.mem_range.mpr hx, rfl⟩
        rcases i3 x with h | h | h <;> omega
    · rw [if_neg (fun q => q2 ((nI_eq (by omega) (by decide)).mp q))]
      by_cases q0 : h = 0
      · subst q0
        rw [if_pos (show 0 = 0 from rfl), if_neg m11, if_pos z00]
        exact ⟨_, _, rfl, rfl, rfl⟩
      · rw [if_neg q0, if_neg q2, if_neg m12, if_neg (fun q => q0 ((nI_eq (by omega) (by decide)).mp q))]
        exact ⟨_, _, rfl, rfl, rfl⟩
  · unfold fX9_refusalOf
    rw [a1, a2, zbs, zbs, e0, if_pos z00, if_pos z00, zbs, if_neg (show ¬ (-1 : Int32) = nI 0 by decide)]
    exact ⟨_, _, rfl, rfl, rfl⟩
