/-! The model: all heaps are turned over; all go. -/
theorem sX10_turnOver_L66 {h : Nat} {all : Int32} (h3 : h < 3) (k2 : Int32 → (Nat → Int32) → Int32 → Option ((Nat → Int32) × Int32)) : ∀ (m n lo hi : Nat) (pl : Nat → Int32), hi ≤ lo + m → hi ≤ 10 → lo ≤ 10 → m < n → ∃ pl', fX10_turnOver_L66 k2 n (nI h) (nI (10 * h)) (nI lo) (ixm hi) pl all = k2 (nI (h + 1)) pl' all ∧ ∀ j, pl' j = if 10 * h + lo ≤ j ∧ j < 10 * h + hi then pl (20 * h + (lo + (hi - 1)) - j) else pl j := by
  intro m
  induction m with
  | zero =>
    intro n lo hi pl h1 h2 h2' h4
    obtain ⟨n, rfl⟩ : ∃ k, n = k + 1 := ⟨n - 1, by omega⟩
    rw [fX10_turnOver_L66]
    simp (disch := omega) only [zlit, zz, if_pos, if_neg, if_true, if_false, zgd', zl, zbs, zbz, encz, ixm_le, fX10_turnOver_J119]
    exact ⟨pl, rfl, fun j => rfl⟩
  | succ m ih =>
    intro n lo hi pl h1 h2 h2' h4
    obtain ⟨n, rfl⟩ : ∃ k, n = k + 1 := ⟨n - 1, by omega⟩
    rw [fX10_turnOver_L66]
    by_cases q : hi ≤ lo + 1
    · simp (disch := omega) only [zlit, zz, if_pos, if_neg, if_true, if_false, zgd', zl, zbs, zbz, encz, ixm_le, fX10_turnOver_J119]
      refine ⟨pl, rfl, fun j => ?_⟩
      split
      · congr 1
        omega
      · rfl
    · obtain ⟨h', rfl⟩ : ∃ k, hi = k + 1 := ⟨hi - 1, by omega⟩
      simp (disch := omega) only [zlit, zz, if_pos, if_neg, if_true, if_false, zgd', zl, zbs, zbz, encz, ixm_s, ixm_m1]
      obtain ⟨pl', e1, e3⟩ := ih n (lo + 1) h' (upd (upd pl (10 * h + lo) (pl (10 * h + h'))) (10 * h + h') (pl (10 * h + lo))) (by omega) (by omega) (by omega) (by omega)
      rw [ixm_pos (by omega)] at e1
      refine ⟨pl', e1, fun j => ?_⟩
      rw [e3 j]
      simp only [upd]
      repeat' split
      all_goals first | rfl | omega | (congr 1; omega)
theorem mB_turn {H : HP} {pl pl' hi : Nat → Int32} {h : Nat} (h3 : h < 3) (hl : ∀ k, (H k).length ≤ 10) (hB : mB H pl hi) (e : ∀ j, pl' j = if 10 * h + 0 ≤ j ∧ j < 10 * h + (H h).length then pl (20 * h + (0 + ((H h).length - 1)) - j) else pl j) : mB (va_up H h (H h).reverse) pl' hi := by
  intro k hk
  unfold va_up
  by_cases q : k = h
  · subst q
    simp only [if_true]
    refine ⟨by rw [(hB k hk).1, List.length_reverse], fun i x hx => ?_⟩
    have hlt := (List.getElem?_eq_some_iff.mp hx).1
    rw [List.length_reverse] at hlt
    rw [List.getElem?_reverse hlt] at hx
    rw [e, if_pos (by omega), show 20 * k + (0 + ((H k).length - 1)) - (10 * k + i) = 10 * k + ((H k).length - 1 - i) by omega]
    exact (hB k hk).2 _ x hx
  · simp only [q, if_false]
    refine ⟨(hB k hk).1, fun i x hx => ?_⟩
    have hlt := (List.getElem?_eq_some_iff.mp hx).1
    have := hl k
    have := hl h
    rw [e, if_neg (by omega)]
    exact (hB k hk).2 i x hx
theorem sX10_turnOver_L17 {fuel N h : Nat} {wt : Nat → Nat} {ki fi : Nat → Int32} {l : List Nat} {pl hi : Nat → Int32} (hlf : ∀ x, x < N → fX10_liftOf fuel ki fi (nI x) = some (nI (wt x))) (h3 : h < 3) (hl : l.length ≤ 10) (hlN : ∀ x ∈ l, x < N) (hpi : ∀ i x, l[i]? = some x → pl (10 * h + i) = nI x) (hhl : hi h = nI l.length) (k2 : Int32 → (Nat → Int32) → Int32 → Option ((Nat → Int32) × Int32)) :
    ∀ (m n i all : Nat), i + m = l.length → m < n → fX10_turnOver_L17 fuel ki fi hi k2 n (nI h) (nI (10 * h)) (nI i) pl (nI all) = fX10_turnOver_J54 fuel hi k2 (nI h) (nI (10 * h)) pl (nI (all + sumW wt (l.drop i))) := by
  intro m
  induction m with
  | zero =>
    intro n i all h1 h2
    obtain ⟨n, rfl⟩ : ∃ k, n = k + 1 := ⟨n - 1, by omega⟩
    rw [fX10_turnOver_L17, List.drop_eq_nil_of_le (by omega)]
    simp (disch := omega) only [zlit, zz, if_pos, if_neg, if_true, if_false, zgd', zl, zbs, zbz, encz, hhl]
    simp [sumW]
  | succ m ih =>
    intro n i all h1 h2
    obtain ⟨n, rfl⟩ : ∃ k, n = k + 1 := ⟨n - 1, by omega⟩
    have hi' : i < l.length := by omega
    have hc := hpi i l[i] (List.getElem?_eq_getElem hi')
    have hcN := hlN l[i] (List.getElem_mem hi')
    rw [fX10_turnOver_L17, List.drop_eq_getElem_cons hi']
    generalize l[i] = c at hc hcN ⊢
    simp (disch := omega) only [zlit, zz, if_pos, if_neg, if_true, if_false, zgd', zl, zbs, zbz, encz, hhl, hc, hlf c hcN]
    rw [ih n (i + 1) _ (by omega) (by omega)]
    congr 2
    simp [sumW]
    omega
theorem sX10_turnOver_L2 {fuel N hp : Nat} {wt : Nat → Nat} {ki fi hi : Nat → Int32} (hf : 100 < fuel) (hhp : hp ≤ 3) (hlf : ∀ x, x < N → fX10_liftOf fuel ki fi (nI x) = some (nI (wt x))) :
    ∀ (m n i all : Nat) (H : HP) (pl : Nat → Int32), i + m = hp → m < n → okH N H → mB H pl hi →
      ∃ o, fX10_turnOver_L2 fuel ki fi (nI hp) hi n (nI i) pl (nI all) = some o ∧ o.2 = nI (all + ((List.range' i m).map fun h => sumW wt (H h)).sum) ∧ mB (fun h => if i ≤ h ∧ h < hp then (H h).reverse else H h) o.1 hi := by
  intro m
  induction m with
  | zero =>
    intro n i all H pl h1 h2 hk hB
    obtain ⟨n, rfl⟩ : ∃ k, n = k + 1 := ⟨n - 1, by omega⟩
    rw [fX10_turnOver_L2]
    simp (disch := omega) only [zlit, zz, if_pos, if_neg, if_true, if_false, zgd', zl, zbs, zbz, encz]
    exact ⟨_, rfl, by simp, hB⟩
  | succ m ih =>
    intro n i all H pl h1 h2 hk hB
    obtain ⟨n, rfl⟩ : ∃ k, n = k + 1 := ⟨n - 1, by omega⟩
    rw [fX10_turnOver_L2]
    have hl := (hk i).1
    obtain ⟨b1, b2⟩ := hB i (by omega)
    simp (disch := omega) only [zlit, zz, if_pos, if_neg, if_true, if_false, zgd', zl, zbs, zbz, encz]
    rw [sX10_turnOver_L17 hlf (show i < 3 by omega) hl (hk i).2 b2 b1 _ (H i).length fuel 0 all (by omega) (by omega), List.drop_zero]
    unfold fX10_turnOver_J54
    have e0 : (1 : Int32) = nI 1 := rfl
    have e00 : (0 : Int32) = nI 0 := rfl
    have e9 : nI (H i).length - nI 1 = ixm (H i).length := rfl
    simp (disch := omega) only [zz, zgd', zl, b1, e0, e9, e00]
    obtain ⟨pl', f1, f2⟩ := sX10_turnOver_L66 (all := nI (all + sumW wt (H i))) (show i < 3 by omega) (fX10_turnOver_L2 fuel ki fi (nI hp) hi n) 10 fuel 0 (H i).length pl (by omega) hl (by omega) (by omega)
    rw [f1]
    have hB2 := mB_turn (show i < 3 by omega) (fun k => (hk k).1) hB f2
    have hk2 : okH N (va_up H i (H i).reverse) := by
      intro h
      unfold va_up
      split
      · rename_i q
        rw [List.length_reverse]
        exact ⟨(hk i).1, fun x hx => (hk i).2 x (List.mem_reverse.mp hx)⟩
      · exact hk h
    obtain ⟨o, o1, o2, o3⟩ := ih n (i + 1) (all + sumW wt (H i)) _ pl' (by omega) (by omega) hk2 hB2
    refine ⟨o, o1, ?_, ?_⟩
    · rw [o2, List.range'_succ, List.map_cons, List.sum_cons, ← Nat.add_assoc]
      congr 3
      refine List.map_congr_left fun h hh => ?_
      have := List.mem_range'_1.mp hh
      rw [va_up, if_neg (by omega)]
    · have : (fun h => if i ≤ h ∧ h < hp then (H h).reverse else H h) = fun h => if i + 1 ≤ h ∧ h < hp then (va_up H i (H i).reverse h).reverse else va_up H i (H i).reverse h := by
        funext h
        unfold va_up
        by_cases q : h = i
        · subst q
          rw [if_pos (by omega), if_neg (by omega), if_pos rfl]
        · rw [if_neg q]
          by_cases q2 : i ≤ h ∧ h < hp
          · rw [if_pos q2, if_pos (by omega)]
          · rw [if_neg q2, if_neg (by omega)]
      rw [this]
      exact o3
theorem sX10_turnOver {fuel N hp all : Nat} {wt : Nat → Nat} {ki fi : Nat → Int32} {H : HP} {pl hi : Nat → Int32} (hf : 100 < fuel) (hhp : hp ≤ 3) (hlf : ∀ x, x < N → fX10_liftOf fuel ki fi (nI x) = some (nI (wt x))) (hk : okH N H) (hB : mB H pl hi) (hout : ∀ h, hp ≤ h → H h = []) :
    ∃ o, fX10_turnOver fuel ki fi (nI hp) pl hi (nI all) = some o ∧ o.2 = nI (all + sumW wt (flat H)) ∧ mB (fun h => (H h).reverse) o.1 hi := by
  obtain ⟨o, o1, o2, o3⟩ := sX10_turnOver_L2 hf hhp hlf hp fuel 0 all H pl (by omega) (by omega) hk hB
  refine ⟨o, o1, ?_, ?_⟩
  · rw [o2, sumW_flat hhp hout]
  · have : (fun h => (H h).reverse) = fun h => if 0 ≤ h ∧ h < hp then (H h).reverse else H h := by
      funext h
      split
      · rfl
      · rw [hout h (by omega)]; rfl
    rw [this]
    exact o3
/-- all rows of the model hold a state of the going -/
def mGo (N hp : Nat) (mist : Bool) (bl : Nat → Bool) (cs rem : List Nat) (wh : Nat → Nat) (s : GoS) (pl hi li be en ha ld tk : Nat → Int32) (all bu : Int32) : Prop :=
  GI N hp mist bl wh rem s ∧ mGr N cs rem wh s li be en ha ld tk all bu ∧ mB s.1 pl hi
theorem mGr_turn {N : Nat} {cs rem : List Nat} {wh wt : Nat → Nat} {s : GoS} {li be en ha ld tk : Nat → Int32} {all bu all' : Int32} (h : mGr N cs rem wh s li be en ha ld tk all bu) (hal : all' = nI (turnS wt s).2.2.2.2.2.2.1) : mGr N cs rem wh (turnS wt s) li be en ha ld tk all' bu := by
  obtain ⟨a, b, c, d, e⟩ := h
  refine ⟨a, b, fun x hx h3 => ?_, hal, e⟩
  rw [c x hx h3]
  congr 1
  exact decide_eq_decide.mpr (not_congr (turn_perm s.1).mem_iff.symm)
/-- which place the heaps are turned over ahead of -/
def tpS (mn : Nat → Nat) (t : Nat) (od : List Nat) : Option Nat := firstIx (fun g => decide (t ≤ mn g)) od
theorem sX10_go_L49 {fuel N hp ba mi t p1 : Nat} {bl : Nat → Bool} {wt mn wh : Nat → Nat} {ki fi od mr wr : Nat → Int32} {cs rest : List Nat} (hf : 100 < fuel) (hN : N ≤ 10) (hhp : hp ≤ 3) (hba : ba ≤ 2) (hmi : mi < 100) (hbl : ∀ x, x < N → fX10_isBlack fuel ki (nI x) = some (zb01 (bl x))) (hlf : ∀ x, x < N → fX10_liftOf fuel ki fi (nI x) = some (nI (wt x))) (hwt : ∀ x, x < N → wt x ≤ 5) (hM : cM mr mn N) (hwh : whOk N wh) (hcs : ∀ x ∈ cs, x < N) (hwr : ∀ x ∈ cs, wr x = encW (wh x)) (hp1 : p1 ≤ 10) (ht : t < 2 ^ 31) :
    ∀ (l : List Nat) (n i v3 : Nat) (tp : Option Nat) (s : GoS) (pl hi li be en ha ld tk ab : Nat → Int32) (all bu : Int32), i + l.length = p1 → l.length < n → (∀ x ∈ l, x ∈ cs) → (l ++ rest).Nodup → arrAt od i l → ((v3 = 1 ∧ ∃ j, tp = some j ∧ j < i) ∨ (v3 = 0 ∧ tp = (tpS mn t l).map (· + i))) → (v3 = 0 → s.2.2.2.2.2.2.1 + 60 * (l ++ rest).length ≤ 900) →
      mGo N hp (decide (mi = 1)) bl cs (l ++ rest) wh s pl hi li be en ha ld tk all bu →
      ∃ o, fX10_go_L49 fuel ki fi (nI hp) (nI ba) (nI mi) od mr wr (nI p1) (nI t) n (nI v3) (nI i) pl hi li be en ha ld tk ab all bu = some o ∧ o.1 = nI (goTR hp ba (decide (mi = 1)) bl wt mn wh tp i s l).2.2.2.2.2.2.1 ∧
        mGo N hp (decide (mi = 1)) bl cs rest wh (goTR hp ba (decide (mi = 1)) bl wt mn wh tp i s l) o.2.1 o.2.2.1 o.2.2.2.1 o.2.2.2.2.1 o.2.2.2.2.2.1 o.2.2.2.2.2.2.1 o.2.2.2.2.2.2.2.1 o.2.2.2.2.2.2.2.2.1 o.2.2.2.2.2.2.2.2.2.2.1 o.2.2.2.2.2.2.2.2.2.2.2 := by
  intro l
  induction l with
  | nil =>
    intro n i v3 tp s pl hi li be en ha ld tk ab all bu h1 h2 hlc hnd had htp hall hG
    obtain ⟨n, rfl⟩ : ∃ k, n = k + 1 := ⟨n - 1, by omega⟩
    rw [List.length_nil] at h1
    rw [fX10_go_L49]
    simp (disch := omega) only [zlit, zz, if_pos, if_neg, if_true, if_false, zgd', zl, zbs, zbz, encz]
    exact ⟨_, rfl, hG.2.1.2.2.2.1, hG⟩
  | cons g l ih =>
    intro n i v3 tp s pl hi li be en ha ld tk ab all bu h1 h2 hlc hnd had htp hall hG
    obtain ⟨n, rfl⟩ : ∃ k, n = k + 1 := ⟨n - 1, by omega⟩
    rw [List.length_cons] at h1 h2
    have hgc := hlc g List.mem_cons_self
    have hg := hcs g hgc
    have hog : od i = nI g := had 0 g rfl
    have had' : arrAt od (i + 1) l := fun j x hx => by
      rw [Nat.add_assoc, Nat.add_comm 1 j]
      exact had (j + 1) x (by simpa using hx)
    rw [List.cons_append] at hnd hall hG
    have hnd' := (List.nodup_cons.mp hnd).2
    obtain ⟨mg1, mg2⟩ := hM g hg
    rw [fX10_go_L49, goTR]
    have one : ∀ (v3 : Nat) (s : GoS) (all : Int32) (pl : Nat → Int32), mGo N hp (decide (mi = 1)) bl cs (g :: (l ++ rest)) wh s pl hi li be en ha ld tk all bu → ((v3 = 1 ∧ ∃ j, tp = some j ∧ j < i + 1) ∨ (v3 = 0 ∧ tp = (tpS mn t l).map (· + (i + 1)))) → (v3 = 0 → s.2.2.2.2.2.2.1 + 60 * (g :: (l ++ rest)).length ≤ 900) →
        ∃ o, fX10_go_J81 fuel ki fi (nI hp) (nI ba) (nI mi) od mr wr (fX10_go_L49 fuel ki fi (nI hp) (nI ba) (nI mi) od mr wr (nI p1) (nI t) n) (nI v3) (nI i) pl hi li be en ha ld tk ab all bu = some o ∧ o.1 = nI (goTR hp ba (decide (mi = 1)) bl wt mn wh tp (i + 1) (goOneS hp ba (decide (mi = 1)) bl wt mn wh s g) l).2.2.2.2.2.2.1 ∧
        mGo N hp (decide (mi = 1)) bl cs rest wh (goTR hp ba (decide (mi = 1)) bl wt mn wh tp (i + 1) (goOneS hp ba (decide (mi = 1)) bl wt mn wh s g) l) o.2.1 o.2.2.1 o.2.2.2.1 o.2.2.2.2.1 o.2.2.2.2.2.1 o.2.2.2.2.2.2.1 o.2.2.2.2.2.2.2.1 o.2.2.2.2.2.2.2.2.1 o.2.2.2.2.2.2.2.2.2.2.1 o.2.2.2.2.2.2.2.2.2.2.2 := by
      intro v3 s all pl hG htp hall
      obtain ⟨g1, g2, g3⟩ := hG
      obtain ⟨o, o1, o2, o3⟩ := sX10_goOne (fuel := fuel) (ab := ab) hf hN hhp hba hmi hbl hlf hM hwh hg hgc hcs (hwr g hgc) hnd g1 g2 g3
      have hG' := GI_step (ba := ba) (mn := mn) hhp hN hwt mg2 hnd g1
      have hal := goOne_all (hp := hp) (ba := ba) (mist := decide (mi = 1)) (bl := bl) (wt := wt) (mn := mn) (wh := wh) (g := g) hwt g1
      unfold fX10_go_J81
      simp (disch := omega) only [zlit, zz, if_pos, if_neg, if_true, if_false, zgd', zl, zbs, zbz, encz, hog, o1]
      refine ih n (i + 1) v3 tp _ _ _ _ _ _ _ _ _ _ _ _ (by omega) (by omega) (fun x hx => hlc x (List.mem_cons_of_mem _ hx)) hnd' had' htp (fun q => ?_) ⟨hG', o2, o3⟩
      have := hall q
      rw [List.length_cons] at this
      omega
    have hlt : ¬ p1 ≤ i := by omega
    rcases htp with ⟨q1, j, q2, q3⟩ | ⟨q1, q2⟩
    · subst q1
      have : ¬ tp = some i := by rw [q2]; intro e; cases e; omega
      rw [if_neg this]
      simp (disch := omega) only [zlit, zz, if_pos, if_neg, if_true, if_false, zgd', zl, zbs, zbz, encz]
      exact one 1 s all pl hG (Or.inl ⟨rfl, j, q2, by omega⟩) (fun e => by cases e)
    · subst q1
      by_cases qt : t ≤ mn g
      · have htp0 : tp = some i := by
          rw [q2]
          unfold tpS
          rw [firstIx, if_pos (by simpa using qt)]
          simp
        rw [if_pos htp0]
        obtain ⟨g1, g2, g3⟩ := hG
        have hal9 := hall rfl
        obtain ⟨o, o1, o2, o3⟩ := sX10_turnOver (fuel := fuel) (all := s.2.2.2.2.2.2.1) hf hhp hlf g1.1 g3 g1.2.2.2.1
        have haa := g2.2.2.2.1
        simp (disch := omega) only [zlit, zz, if_pos, if_neg, if_true, if_false, zgd', zl, zbs, zbz, encz, haa, o1, hog, mg1]
        exact one 1 (turnS wt s) _ _ ⟨GI_turn hwt hal9 g1, mGr_turn g2 o2, o3⟩ (Or.inl ⟨rfl, i, htp0, by omega⟩) (fun e => by cases e)
      · have htp0 : tp = (tpS mn t l).map (· + (i + 1)) := by
          rw [q2]
          unfold tpS
          rw [firstIx, if_neg (by simpa using qt), Option.map_map]
          congr 1
          funext x
          simp
          omega
        have hne : ¬ tp = some i := by
          rw [htp0]
          cases tpS mn t l with
          | none => simp
          | some x => simp; omega
        rw [if_neg hne]
        simp (disch := omega) only [zlit, zz, if_pos, if_neg, if_true, if_false, zgd', zl, zbs, zbz, encz, hog, mg1]
        exact one 0 s all pl hG (Or.inr ⟨rfl, htp0⟩) hall
