/-! The call: whose. A room without one guest, its guests renumbered. -/
def sgm (b i : Nat) : Nat := if i < b then i else i + 1
theorem sgm_inj {b i j : Nat} : sgm b i = sgm b j ↔ i = j := by
  unfold sgm
  constructor
  · intro h
    split at h <;> split at h <;> omega
  · intro h; rw [h]
theorem shS_sgm (f : Nat → Nat) (b : Nat) : shS f b = fun i => f (sgm b i) := by
  funext i
  unfold shS sgm
  split <;> rfl
theorem hang_lv : ∀ b, b < 10 → ∀ v, v < 1024 → ∀ j, j < 10 → hangS (lvS v b) j = hangS v (sgm b j) := by decide +kernel
theorem butS_sgm {N b : Nat} (hb : b < N) : butS N b = (List.range (N - 1)).map (sgm b) := by
  have key : ∀ n, butS n b = (List.range (if b < n then n - 1 else n)).map (sgm b) := by
    intro n
    induction n with
    | zero => simp [butS]
    | succ n ih =>
      rw [butS_succ, ih]
      by_cases q : n = b
      · subst q
        simp
      · rw [if_neg q]
        by_cases q2 : b < n
        · rw [if_pos q2, if_pos (by omega), show n + 1 - 1 = n - 1 + 1 by omega, List.range_succ, List.map_append]
          congr 1
          simp only [List.map_cons, List.map_nil, sgm]
          rw [if_neg (by omega), show n - 1 + 1 = n by omega]
        · rw [if_neg q2, if_neg (by omega), List.range_succ, List.map_append]
          congr 1
          simp only [List.map_cons, List.map_nil, sgm]
          rw [if_pos (by omega)]
  rw [key N, if_pos hb]
theorem insR_map {mn : Nat → Nat} {b g : Nat} : ∀ l : List Nat, insR mn (sgm b g) (l.map (sgm b)) = (insR (fun i => mn (sgm b i)) g l).map (sgm b)
  | [] => rfl
  | x :: xs => by
    rw [List.map_cons, insR, insR, insR_map xs]
    split <;> rfl
theorem ordS_map {mn : Nat → Nat} {b : Nat} (cs : List Nat) : ordS mn (cs.map (sgm b)) = (ordS (fun i => mn (sgm b i)) cs).map (sgm b) := by
  have key : ∀ (cs l : List Nat), (cs.map (sgm b)).foldl (fun l g => insR mn g l) (l.map (sgm b)) = (cs.foldl (fun l g => insR (fun i => mn (sgm b i)) g l) l).map (sgm b) := by
    intro cs
    induction cs with
    | nil => intro l; rfl
    | cons g cs ih =>
      intro l
      rw [List.map_cons, List.foldl_cons, List.foldl_cons, insR_map, ih]
  unfold ordS ordR
  rw [List.map_reverse]
  exact congrArg List.reverse (key cs [])
/-- a laying, renumbered -/
def eqLy (b : Nat) (S S' : LayS) : Prop := (∀ h, S.1 h = (S'.1 h).map (sgm b)) ∧ S.2.1 = S'.2.1 ∧ ∀ j, S.2.2 (sgm b j) = S'.2.2 j
theorem lay_map {hp ho b : Nat} {L : List Nat} {hang hang' : Nat → Bool} {mn : Nat → Nat} : ∀ (cs : List Nat) (S S' : LayS), (∀ g ∈ cs, hang' g = hang (sgm b g)) → eqLy b S S' → eqLy b ((cs.map (sgm b)).foldl (layOneS hp ho L hang mn) S) (cs.foldl (layOneS hp ho L hang' (fun i => mn (sgm b i))) S')
  | [], _, _, _, h => h
  | g :: cs, S, S', hh, h => by
    rw [List.map_cons, List.foldl_cons, List.foldl_cons]
    refine lay_map cs _ _ (fun x hx => hh x (List.mem_cons_of_mem _ hx)) ?_
    obtain ⟨h1, h2, h3⟩ := h
    have hln : lnS S.1 = lnS S'.1 := by funext k; unfold lnS; rw [h1, List.length_map]
    have htm : tmS mn S.1 = tmS (fun i => mn (sgm b i)) S'.1 := by
      funext k
      unfold tmS
      rw [h1, List.getLast?_map, Option.map_map]
      rfl
    have hw : whS hp ho L hang mn S.1 S.2.1 (sgm b g) = whS hp ho L hang' (fun i => mn (sgm b i)) S'.1 S'.2.1 g := by
      unfold whS
      rw [hln, htm, h2, hh g List.mem_cons_self]
    unfold layOneS
    rw [hw]
    generalize whS hp ho L hang' (fun i => mn (sgm b i)) S'.1 S'.2.1 g = c
    refine ⟨fun k => ?_, by show (if c < 3 then some c else S.2.1) = _; rw [h2], fun j => ?_⟩
    · show (if c < 3 then va_up S.1 c (S.1 c ++ [sgm b g]) else S.1) k = ((if c < 3 then va_up S'.1 c (S'.1 c ++ [g]) else S'.1) k).map (sgm b)
      split
      · unfold va_up
        split
        · rw [h1, List.map_append]; rfl
        · exact h1 k
      · exact h1 k
    · show va_up S.2.2 (sgm b g) c (sgm b j) = va_up S'.2.2 g c j
      unfold va_up
      by_cases q : j = g
      · rw [if_pos (by rw [q]), if_pos q]
      · rw [if_neg (fun e => q (sgm_inj.mp e)), if_neg q, h3]
theorem lastIx_map {p : Nat → Bool} {b : Nat} : ∀ l : List Nat, lastIx p (l.map (sgm b)) = lastIx (fun i => p (sgm b i)) l
  | [] => rfl
  | x :: xs => by rw [List.map_cons, lastIx, lastIx, lastIx_map xs]
theorem mem_sgm {b g : Nat} {l : List Nat} : sgm b g ∈ l.map (sgm b) ↔ g ∈ l := by
  rw [List.mem_map]
  constructor
  · rintro ⟨x, h1, h2⟩; rw [← sgm_inj.mp h2]; exact h1
  · intro h; exact ⟨g, h, rfl⟩
theorem srcS_map {hp b g : Nat} {bl : Nat → Bool} {H H' : HP} (h : ∀ k, H k = (H' k).map (sgm b)) : srcS hp bl H (sgm b g) = srcS hp (fun i => bl (sgm b i)) H' g := by
  have e1 : (fun k => decide (sgm b g ∈ H k)) = fun k => decide (g ∈ H' k) := by
    funext k
    rw [h]
    exact decide_eq_decide.mpr mem_sgm
  have e2 : (fun k => (H k).any bl) = fun k => (H' k).any fun i => bl (sgm b i) := by
    funext k
    rw [h, List.any_map]
    rfl
  unfold srcS
  rw [e1, e2]
theorem tkS_map {mist : Bool} {bl : Nat → Bool} {b g c : Nat} : tkS mist bl (sgm b g) (sgm b c) = tkS mist (fun i => bl (sgm b i)) g c := by
  unfold tkS
  have : decide (sgm b c = sgm b g) = decide (c = g) := decide_eq_decide.mpr sgm_inj
  rw [this]
theorem spotS_map {hp b g : Nat} {mist : Bool} {bl : Nat → Bool} {H H' : HP} (h : ∀ k, H k = (H' k).map (sgm b)) : spotS hp mist bl H (sgm b g) = spotS hp mist (fun i => bl (sgm b i)) H' g := by
  unfold spotS
  rw [srcS_map h]
  have e : (fun i => tkS mist bl (sgm b g) (sgm b i)) = tkS mist (fun i => bl (sgm b i)) g := by funext i; exact tkS_map
  cases srcS hp (fun i => bl (sgm b i)) H' g with
  | none => rfl
  | some k =>
    show (match lastIx (tkS mist bl (sgm b g)) (H k) with | none => none | some i => some (k, i)) = (match lastIx (tkS mist (fun i => bl (sgm b i)) g) (H' k) with | none => none | some i => some (k, i))
    rw [h, lastIx_map, e]
theorem sumW_map {wt : Nat → Nat} {b : Nat} (l : List Nat) : sumW wt (l.map (sgm b)) = sumW (fun i => wt (sgm b i)) l := by
  unfold sumW
  rw [List.map_map]
  rfl
theorem backS_map {hp ba h b : Nat} {H H' : HP} {ba1 ab1 : List Nat} (hh : ∀ k, H k = (H' k).map (sgm b)) : ∀ k, backS hp ba h H (ba1.map (sgm b)) (ab1.map (sgm b)) k = (backS hp ba h H' ba1 ab1 k).map (sgm b) := by
  intro k
  unfold backS
  split
  · unfold va_up
    split
    · simp
    · exact hh k
  · split
    · unfold va_up
      split
      · simp [hh]
      · split
        · simp
        · exact hh k
    · unfold va_up
      split
      · simp
      · exact hh k
def eqGo (b : Nat) (s s' : GoS) : Prop := (∀ h, s.1 h = (s'.1 h).map (sgm b)) ∧ ∀ j, s.2.2.1 (sgm b j) = s'.2.2.1 j
theorem goOne_map {hp ba b g : Nat} {mist : Bool} {bl : Nat → Bool} {wt mn wh wh' : Nat → Nat} {s s' : GoS} (hw : ∀ j, wh (sgm b j) = wh' j) (h : eqGo b s s') : eqGo b (goOneS hp ba mist bl wt mn wh s (sgm b g)) (goOneS hp ba mist (fun i => bl (sgm b i)) (fun i => wt (sgm b i)) (fun i => mn (sgm b i)) wh' s' g) := by
  obtain ⟨h1, h2⟩ := h
  unfold goOneS
  rw [hw, spotS_map h1]
  split
  · exact ⟨h1, h2⟩
  · cases spotS hp mist (fun i => bl (sgm b i)) s'.1 g with
    | none => exact ⟨h1, h2⟩
    | some q =>
      obtain ⟨k, i⟩ := q
      refine ⟨fun x => ?_, fun j => ?_⟩
      · show backS hp ba k s.1 ((s.1 k).take i) ((s.1 k).drop (i + 1)) x = (backS hp ba k s'.1 ((s'.1 k).take i) ((s'.1 k).drop (i + 1)) x).map (sgm b)
        rw [h1 k, ← List.map_take, ← List.map_drop]
        exact backS_map h1 x
      · show va_up s.2.2.1 (sgm b g) (s.2.2.1 (sgm b g) + sumW wt ((s.1 k).drop (i + 1))) (sgm b j) = va_up s'.2.2.1 g (s'.2.2.1 g + sumW (fun i => wt (sgm b i)) ((s'.1 k).drop (i + 1))) j
        rw [h1 k, ← List.map_drop, sumW_map, h2]
        unfold va_up
        by_cases q : j = g
        · rw [if_pos (by rw [q]), if_pos q]
        · rw [if_neg (fun e => q (sgm_inj.mp e)), if_neg q, h2]
theorem go_map {hp ba b : Nat} {mist : Bool} {bl : Nat → Bool} {wt mn wh wh' : Nat → Nat} (hw : ∀ j, wh (sgm b j) = wh' j) : ∀ (l : List Nat) (i : Nat) (s s' : GoS), eqGo b s s' → eqGo b (goTR hp ba mist bl wt mn wh none i s (l.map (sgm b))) (goTR hp ba mist (fun i => bl (sgm b i)) (fun i => wt (sgm b i)) (fun i => mn (sgm b i)) wh' none i s' l)
  | [], _, _, _, h => h
  | g :: l, i, s, s', h => by
    rw [List.map_cons, goTR, goTR]
    simp only [reduceCtorEq, if_false]
    exact go_map hw l (i + 1) _ _ (goOne_map hw h)
/-- what g lifts if one doesn't come -/
def whL (r : SR) (b g : Nat) : Nat := (goR r (layR r (butS (rN r) b)) none (ordS (mnR r) (butS (rN r) b))).2.2.1 g
theorem whL_leave {r : SR} {b j : Nat} (hr : okR r) (hk : rHk r < 1024) (hb : b < rN r) : whL r b (sgm b j) = (nightR (rLeave r b)).2.2.1 j := by
  have hN := hr.1
  have emn : mnR (rLeave r b) = fun i => mnR r (sgm b i) := by
    unfold mnR mnS
    show (fun i => goS (shS (rK r) b i) (shS (rF r) b i) (shS (rM r) b i)) = _
    rw [shS_sgm, shS_sgm, shS_sgm]
  have ewt : wtR (rLeave r b) = fun i => wtR r (sgm b i) := by
    unfold wtR wtF
    show (fun i => wtS (shS (rK r) b i) (shS (rF r) b i)) = _
    rw [shS_sgm, shS_sgm]
  have ebl : blR (rLeave r b) = fun i => blR r (sgm b i) := by
    unfold blR
    show (fun i => blS (shS (rK r) b i)) = _
    rw [shS_sgm]
  have hly : eqLy b (layR r (butS (rN r) b)) (layR (rLeave r b) (List.range (rN (rLeave r b)))) := by
    unfold layR layS
    rw [butS_sgm hb, emn]
    exact lay_map (List.range (rN r - 1)) _ _ (fun g hg => hang_lv b (by omega) (rHk r) hk g (by have := List.mem_range.mp hg; omega)) ⟨fun _ => rfl, rfl, fun _ => rfl⟩
  have hgo : eqGo b (goR r (layR r (butS (rN r) b)) none (ordS (mnR r) (butS (rN r) b))) (nightR (rLeave r b)) := by
    unfold nightR goR odR
    rw [butS_sgm hb, ordS_map, emn, ewt, ebl]
    rw [butS_sgm hb] at hly
    exact go_map hly.2.2 _ 0 _ _ ⟨hly.1, fun _ => rfl⟩
  exact hgo.2 j
theorem u_whose_L {r : SR} {g now : Nat} (fuel : Nat) (r_guests : Int32) (r_kinds : Nat → Int32) (r_figures : Nat → Int32) (r_minutes : Nat → Int32) (r_settings : Nat → Int32) (r_hooks : Int32) (r_letters : Nat → Int32) (r_letterCount : Int32) (ad_t : Nat → Nat) (p2 : Int32) (M_guests : Int32) (M_kind : Nat → Int32) (M_figure : Nat → Int32) (M_told : Nat → Int32) (M_heaps : Int32) (M_holds : Int32) (M_back : Int32) (M_mistakes : Int32) (M_hooks : Int32) (M_letters : Int32) (M_rule : Nat → Int32) (p1 : Int32) (hf : 100 < fuel) (hr : okT r) (hc : cR r r_guests r_kinds r_figures r_minutes r_settings r_hooks r_letters r_letterCount) (hm : mR r M_guests M_kind M_figure M_told M_heaps M_holds M_back M_mistakes M_hooks M_letters M_rule) (hg : g < rN r) (hp2 : p2 = nI g) (hp1 : p1 = nI g) :
    ∀ (m n i : Nat) (v : Int32) (t_guests : Int32) (t_kinds : Nat → Int32) (t_figures : Nat → Int32) (t_minutes : Nat → Int32) (t_settings : Nat → Int32) (t_hooks : Int32) (t_letters : Nat → Int32) (t_letterCount : Int32) (n_order : Nat → Int32) (n_weights : Nat → Int32) (n_black : Nat → Int32) (n_lifts : Nat → Int32) (n_begins : Nat → Int32) (n_ends : Nat → Int32) (n_has : Nat → Int32) (n_lifted : Nat → Int32) (n_allLifts : Int32) (n_doneAt : Int32) (y_going : Nat → Int32) (y_coming : Nat → Int32) (y_holds : Int32) (y_latest : Int32) (b_heaps : Int32) (b_piles : Nat → Nat → Int32) (b_heights : Nat → Int32) (b_spots : Nat → Int32) (n_room : Nat) (M_coming : Nat → Int32) (M_comingMany : Int32) (M_going : Nat → Int32) (M_goingMany : Int32) (M_minute : Nat → Int32) (M_pile : Nat → Int32) (M_high : Nat → Int32) (M_where : Nat → Int32) (M_latest : Int32) (M_lifts : Nat → Int32) (M_begun : Nat → Int32) (M_left : Nat → Int32) (M_has : Nat → Int32) (M_lifted : Nat → Int32) (M_taken : Nat → Int32) (M_above : Nat → Int32) (M_allLifts : Int32) (M_busy : Int32), i + m = rN r → m < n →
      ∃ o p, fX8_inTheWayOf_L25 fuel r_guests r_kinds r_figures r_minutes r_settings r_hooks r_letters r_letterCount ad_t p2 n (nI now) v (nI i) t_guests t_kinds t_figures t_minutes t_settings t_hooks t_letters t_letterCount n_order n_weights n_black n_lifts n_begins n_ends n_has n_lifted n_allLifts n_doneAt y_going y_coming y_holds y_latest b_heaps b_piles b_heights b_spots n_room = some o ∧ fX10_whose_L27 fuel M_guests M_kind M_figure M_told M_heaps M_holds M_back M_mistakes M_hooks M_letters M_rule p1 n (nI now) v (nI i) M_coming M_comingMany M_going M_goingMany M_minute M_pile M_high M_where M_latest M_lifts M_begun M_left M_has M_lifted M_taken M_above M_allLifts M_busy = some p ∧ o.1 = p.1 := by
  have hN := hr.1.1
  subst hp1 hp2
  intro m
  induction m with
  | zero =>
    intro n i v t_guests t_kinds t_figures t_minutes t_settings t_hooks t_letters t_letterCount n_order n_weights n_black n_lifts n_begins n_ends n_has n_lifted n_allLifts n_doneAt y_going y_coming y_holds y_latest b_heaps b_piles b_heights b_spots n_room M_coming M_comingMany M_going M_goingMany M_minute M_pile M_high M_where M_latest M_lifts M_begun M_left M_has M_lifted M_taken M_above M_allLifts M_busy h1 h2
    obtain ⟨n, rfl⟩ : ∃ k, n = k + 1 := ⟨n - 1, by omega⟩
    have hle : nI (rN r) ≤ nI i := (nI_leI (by omega) (by omega)).mpr (by omega)
    rw [fX8_inTheWayOf_L25, fX10_whose_L27, if_pos (show r_guests ≤ nI i by rw [hc.1]; exact hle), if_pos (show M_guests ≤ nI i by rw [hm.1]; exact hle)]
    exact ⟨_, _, rfl, rfl, rfl⟩
  | succ m ih =>
    intro n i v t_guests t_kinds t_figures t_minutes t_settings t_hooks t_letters t_letterCount n_order n_weights n_black n_lifts n_begins n_ends n_has n_lifted n_allLifts n_doneAt y_going y_coming y_holds y_latest b_heaps b_piles b_heights b_spots n_room M_coming M_comingMany M_going M_goingMany M_minute M_pile M_high M_where M_latest M_lifts M_begun M_left M_has M_lifted M_taken M_above M_allLifts M_busy h1 h2
    obtain ⟨n, rfl⟩ : ∃ k, n = k + 1 := ⟨n - 1, by omega⟩
    have hi : i < rN r := by omega
    have hnle : ¬ nI (rN r) ≤ nI i := fun h => by have := (nI_leI (by omega) (by omega)).mp h; omega
    rw [fX8_inTheWayOf_L25, fX10_whose_L27, if_neg (show ¬ r_guests ≤ nI i by rw [hc.1]; exact hnle), if_neg (show ¬ M_guests ≤ nI i by rw [hm.1]; exact hnle)]
    unfold fX8_inTheWayOf_J103 fX10_whose_J82
    have e1 : nI i + 1 = nI (i + 1) := by rw [show (1 : Int32) = nI 1 from rfl, nI_add]
    by_cases qg : i = g
    · subst qg
      rw [if_pos rfl, if_pos rfl, zl, zl, e1]
      apply ih
      · omega
      · omega
    · have hne : ¬ nI i = nI g := fun h => qg ((nI_eq (by omega) (by omega)).mp h)
      rw [if_neg hne, if_neg hne]
      obtain ⟨c, c1, c2⟩ := sX5_copyFrom hr.1 hc fuel t_guests t_kinds t_figures t_minutes t_settings t_hooks t_letters t_letterCount
      obtain ⟨d, d1, d2, d3⟩ := sX5_dismiss (fuel := fuel) hf hr.1 (okT_hk hr) hi c2
      have hrl := ok_leaveR hr.1 hi hr.2.2.1
      obtain ⟨y, y1, y2, y3, y4, -, ⟨g1, g2, g3, -⟩, -⟩ := sX3_pass hf hrl d3 n_order n_weights n_black n_lifts n_begins n_ends n_has n_lifted n_allLifts n_doneAt y_going y_coming y_holds y_latest b_heaps b_piles b_heights b_spots
      -- the model
      obtain ⟨q, q1, q2⟩ := sX10_minutesAsTold hf hN hm.2.1 M_minute
      obtain ⟨a, a1, a2⟩ := sX10_allCome (p1 := nI i) hf hN (but := i) (fun x hx => propext (nI_eq (by omega) (by omega))) M_coming M_comingMany
      have hbl : (butS (rN r) i).length ≤ 10 := by rw [butS_sgm hi]; simp; omega
      obtain ⟨go, b1, b2⟩ := sX10_allGo hf hN q2 a2 hbl (fun x hx => butS_lt hx) (butS_up _ _) M_going M_goingMany
      have hokC : okC r (butS (rN r) i) := ⟨List.Pairwise.filter _ List.nodup_range, fun x hx => butS_lt hx, hbl⟩
      obtain ⟨w, w1, w2, w3, -, ⟨k1, -⟩, -⟩ := sX10_layAndGo (fuel := fuel) (od := ordS (mnR r) (butS (rN r) i)) hf hr.1 ⟨M_told, hm⟩ q2 hokC (ordS_perm _ _) a2 b2 M_pile M_high M_where M_latest M_lifts M_begun M_left M_has M_lifted M_taken M_above M_allLifts M_busy
      rw [ordS_length] at w1
      rw [← hm.1] at q1 a1
      have hgb : g ∈ butS (rN r) i := List.mem_filter.mpr ⟨List.mem_range.mpr hg, by simpa using fun e => qg e.symm⟩
      have hwl : w.2.2.2.2.2.1 g = nI (whL r i g) := (k1 g hgb (by simp)).1
      rw [c1, zbs, d1, zbs, y1, zbs, q1, zbs, a1, zbs]
      dsimp only
      rw [b1, zbs]
      dsimp only
      rw [w1, zbs, zin_nI (by omega), zgd' (by omega), nI_clamp (by omega), hwl]
      have hcls : ∀ j, j < rN r - 1 → sgm i j = g → y.2.2.2.2.1 j = nI (whL r i g) := fun j hj e => by
        rw [← e, whL_leave hr.1 (okT_hk hr) hi]
        exact (g1 j hj).1
      have hor : v ||| 0 = v := zor0 v
      by_cases ql : g ≤ i
      · rw [if_pos ((nI_leI (by omega) (by omega)).mpr ql), zgd' (by omega), hcls g (by omega) (by unfold sgm; rw [if_pos (by omega)])]
        by_cases qn : nI now ≤ nI (whL r i g)
        · rw [if_pos qn, if_pos qn, zl, zl, zl, e1, hor]
          apply ih
          · omega
          · omega
        · rw [if_neg qn, if_neg qn, zl, zl, zl, zl, e1]
          apply ih
          · omega
          · omega
      · rw [if_neg (fun h => ql ((nI_leI (by omega) (by omega)).mp h)), show (1 : Int32) = nI 1 from rfl, nI_sub (by omega), zin_nI (by omega), zgd' (by omega), nI_clamp (by omega), zgd' (by omega), hcls (g - 1) (by omega) (by unfold sgm; rw [if_neg (by omega)]; omega)]
        rw [show (1 : Int32) = nI 1 from rfl] at e1
        by_cases qn : nI now ≤ nI (whL r i g)
        · rw [if_pos qn, if_pos qn, zl, zl, zl, e1, hor]
          apply ih
          · omega
          · omega
        · rw [if_neg qn, if_neg qn, zl, zl, zl, zl, e1]
          apply ih
          · omega
          · omega
theorem u_whose {r : SR} (fuel : Nat) (d_guests : Int32) (d_kinds : Nat → Int32) (d_figures : Nat → Int32) (d_minutes : Nat → Int32) (d_settings : Nat → Int32) (d_hooks : Int32) (d_letters : Nat → Int32) (d_letterCount : Int32) (t_guests : Int32) (t_kinds : Nat → Int32) (t_figures : Nat → Int32) (t_minutes : Nat → Int32) (t_settings : Nat → Int32) (t_hooks : Int32) (t_letters : Nat → Int32) (t_letterCount : Int32) (m_room : Nat) (m_order : Nat → Int32) (m_weights : Nat → Int32) (m_black : Nat → Int32) (m_lifts : Nat → Int32) (m_begins : Nat → Int32) (m_ends : Nat → Int32) (m_has : Nat → Int32) (m_lifted : Nat → Int32) (m_allLifts : Int32) (m_doneAt : Int32) (z_going : Nat → Int32) (z_coming : Nat → Int32) (z_holds : Int32) (z_latest : Int32) (c_heaps : Int32) (c_piles : Nat → Nat → Int32) (c_heights : Nat → Int32) (c_spots : Nat → Int32) (ad_d : Nat → Nat) (ad_t : Nat → Nat) (p1 : Int32) (M_guests : Int32) (M_kind : Nat → Int32) (M_figure : Nat → Int32) (M_told : Nat → Int32) (M_heaps : Int32) (M_holds : Int32) (M_back : Int32) (M_mistakes : Int32) (M_hooks : Int32) (M_letters : Int32) (M_rule : Nat → Int32) (M_coming : Nat → Int32) (M_comingMany : Int32) (M_going : Nat → Int32) (M_goingMany : Int32) (M_minute : Nat → Int32) (M_pile : Nat → Int32) (M_high : Nat → Int32) (M_where : Nat → Int32) (M_latest : Int32) (M_lifts : Nat → Int32) (M_begun : Nat → Int32) (M_left : Nat → Int32) (M_has : Nat → Int32) (M_lifted : Nat → Int32) (M_taken : Nat → Int32) (M_above : Nat → Int32) (M_allLifts : Int32) (M_busy : Int32) (hf : 100 < fuel) (hr : okT r) (hc : cR r d_guests d_kinds d_figures d_minutes d_settings d_hooks d_letters d_letterCount) (hm : mR r M_guests M_kind M_figure M_told M_heaps M_holds M_back M_mistakes M_hooks M_letters M_rule) : ∃ o p, fX9_whose fuel d_guests d_kinds d_figures d_minutes d_settings d_hooks d_letters d_letterCount t_guests t_kinds t_figures t_minutes t_settings t_hooks t_letters t_letterCount m_room m_order m_weights m_black m_lifts m_begins m_ends m_has m_lifted m_allLifts m_doneAt z_going z_coming z_holds z_latest c_heaps c_piles c_heights c_spots ad_d ad_t p1 = some o ∧ fX10_whose fuel M_guests M_kind M_figure M_told M_heaps M_holds M_back M_mistakes M_hooks M_letters M_rule M_coming M_comingMany M_going M_goingMany M_minute M_pile M_high M_where M_latest M_lifts M_begun M_left M_has M_lifted M_taken M_above M_allLifts M_busy p1 = some p ∧ o.1 = p.1 := by
  have hN := hr.1.1
  unfold fX9_whose fX10_whose
  have c1 := hc.1
  have m1 := hm.1
  have e0 : (0 : Int32) = nI 0 := rfl
  rcases gcase (fuel := fuel) hN p1 with ⟨g, hg, rfl, a1, a2⟩ | ⟨a1, a2⟩
  · rw [← c1] at a1
    rw [← m1] at a2
    rw [a1, a2, zbs, zbs, e0, if_neg z10, if_neg z10]
    unfold fX8_inTheWayOf
    obtain ⟨y, y1, y2, y3, y4, -, ⟨g1, g2, g3, -⟩, -⟩ := sX3_pass hf hr.1 hc m_order m_weights m_black m_lifts m_begins m_ends m_has m_lifted m_allLifts m_doneAt z_going z_coming z_holds z_latest c_heaps c_piles c_heights c_spots
    obtain ⟨w, w1, w2, w3, w4, w5, w6, -, ⟨k1, -⟩, -⟩ := sX10_night hf hr.1 hm M_coming M_comingMany M_going M_goingMany M_minute M_pile M_high M_where M_latest M_lifts M_begun M_left M_has M_lifted M_taken M_above M_allLifts M_busy
    have hz : zin (nI g) 10 = true := by rw [zin_nI (by omega)]; simp; omega
    have hcl : (nI g).toNatClampNeg = g := nI_clamp (by omega)
    rw [y1, zbs, w1, zbs, hz, zgt, zgt, zl, zl, hcl, (g1 g hg).1, (k1 g (List.mem_range.mpr hg) (by simp)).1, e0]
    obtain ⟨o, p, o1, o2, o3⟩ := u_whose_L (r := r) (g := g) (now := (nightR r).2.2.1 g) fuel d_guests d_kinds d_figures d_minutes d_settings d_hooks d_letters d_letterCount ad_t (nI g) M_guests M_kind M_figure M_told M_heaps M_holds M_back M_mistakes M_hooks M_letters M_rule (nI g) hf hr hc hm hg rfl rfl (rN r) fuel 0 (nI 0) t_guests t_kinds t_figures t_minutes t_settings t_hooks t_letters t_letterCount y.2.1 y.2.2.1 y.2.2.2.1 y.2.2.2.2.1 y.2.2.2.2.2.1 y.2.2.2.2.2.2.1 y.2.2.2.2.2.2.2.1 y.2.2.2.2.2.2.2.2.1 y.2.2.2.2.2.2.2.2.2.1 y.2.2.2.2.2.2.2.2.2.2.1 y.2.2.2.2.2.2.2.2.2.2.2.1 y.2.2.2.2.2.2.2.2.2.2.2.2.1 y.2.2.2.2.2.2.2.2.2.2.2.2.2.1 y.2.2.2.2.2.2.2.2.2.2.2.2.2.2.1 y.2.2.2.2.2.2.2.2.2.2.2.2.2.2.2.1 y.2.2.2.2.2.2.2.2.2.2.2.2.2.2.2.2.1 y.2.2.2.2.2.2.2.2.2.2.2.2.2.2.2.2.2.1 y.2.2.2.2.2.2.2.2.2.2.2.2.2.2.2.2.2.2 (ad_d 0) w.2.1 w.2.2.1 w.2.2.2.1 w.2.2.2.2.1 w.2.2.2.2.2.1 w.2.2.2.2.2.2.1 w.2.2.2.2.2.2.2.1 w.2.2.2.2.2.2.2.2.1 w.2.2.2.2.2.2.2.2.2.1 w.2.2.2.2.2.2.2.2.2.2.1 w.2.2.2.2.2.2.2.2.2.2.2.1 w.2.2.2.2.2.2.2.2.2.2.2.2.1 w.2.2.2.2.2.2.2.2.2.2.2.2.2.1 w.2.2.2.2.2.2.2.2.2.2.2.2.2.2.1 w.2.2.2.2.2.2.2.2.2.2.2.2.2.2.2.1 w.2.2.2.2.2.2.2.2.2.2.2.2.2.2.2.2.1 w.2.2.2.2.2.2.2.2.2.2.2.2.2.2.2.2.2.1 w.2.2.2.2.2.2.2.2.2.2.2.2.2.2.2.2.2.2 (by omega) (by omega)
    rw [o1, o2, zbs]
    exact ⟨_, _, rfl, rfl, o3⟩
  · rw [← c1] at a1
    rw [← m1] at a2
    rw [a1, a2, zbs, zbs, e0, if_pos z00, if_pos z00]
    exact ⟨_, _, rfl, rfl, rfl⟩
