/-! The class: letGo, pass. -/
/-- the rows of the class hold a state of the going, all of them -/
def cGo (N hp : Nat) (mist : Bool) (bl : Nat → Bool) (wh : Nat → Nat) (rem : List Nat) (s : GoS) (li be en ha ld : Nat → Int32) (all dn : Int32) (pi : Nat → Nat → Int32) (hts sps : Nat → Int32) : Prop :=
  GI N hp mist bl wh rem s ∧ cGr N rem s li be en ha ld all dn ∧ cSp N wh rem s.1 sps ∧ cB s.1 pi hts
theorem sX3_letGo_L53 {fuel N hp mi ba : Nat} {bl : Nat → Bool} {wt mn wh : Nat → Nat} {w b go se od : Nat → Int32} {tp : Option Nat} (hf : 100 < fuel) (hhp : hp ≤ 3) (hN : N ≤ 10) (hb : ∀ x, x < N → b x = zb01 (bl x)) (hw : cM w wt N) (hwt : ∀ x, x < N → wt x ≤ 5) (hM : cM go mn N) (hse : se 3 = nI mi) (hmi : mi < 100) (hse2 : se 2 = nI ba) (hba : ba ≤ 2) (hwh : whOk N wh) (htp : ∀ t, tp = some t → t < 1000) (p1 : Nat) (hp1 : p1 ≤ 10) (rest : List Nat) :
    ∀ (l : List Nat) (n i : Nat) (s : GoS) (li be en ha ld : Nat → Int32) (all dn : Int32) (pi : Nat → Nat → Int32) (hts sps : Nat → Int32), i + l.length = p1 → l.length < n → (∀ x ∈ l, x < N) → (l ++ rest).Nodup → arrAt od i l → ((∃ t, tp = some t ∧ i ≤ t) → s.2.2.2.2.2.2.1 + 60 * (l ++ rest).length ≤ 900) →
      cGo N hp (decide (mi = 1)) bl wh (l ++ rest) s li be en ha ld all dn pi hts sps →
      ∃ o, fX3_letGo_L53 fuel od w b go (nI hp) se (nI p1) (enc tp) n (nI i) li be en ha ld all dn pi hts sps = some o ∧ o.1 = nI (goTR hp ba (decide (mi = 1)) bl wt mn wh tp i s l).2.2.2.2.2.2.1 ∧
        cGo N hp (decide (mi = 1)) bl wh rest (goTR hp ba (decide (mi = 1)) bl wt mn wh tp i s l) o.2.1 o.2.2.1 o.2.2.2.1 o.2.2.2.2.1 o.2.2.2.2.2.1 o.2.2.2.2.2.2.1 o.2.2.2.2.2.2.2.1 o.2.2.2.2.2.2.2.2.1 o.2.2.2.2.2.2.2.2.2.1 o.2.2.2.2.2.2.2.2.2.2 := by
  intro l
  induction l with
  | nil =>
    intro n i s li be en ha ld all dn pi hts sps h1 h2 hlN hnd had hall hG
    obtain ⟨n, rfl⟩ : ∃ k, n = k + 1 := ⟨n - 1, by omega⟩
    rw [List.length_nil] at h1
    rw [fX3_letGo_L53]
    simp (disch := omega) only [zlit, zz, if_pos, if_neg, if_true, if_false, zgd', zl, zbs, zbz, encz]
    exact ⟨_, rfl, hG.2.1.2.2.1, hG⟩
  | cons g l ih =>
    intro n i s li be en ha ld all dn pi hts sps h1 h2 hlN hnd had hall hG
    obtain ⟨n, rfl⟩ : ∃ k, n = k + 1 := ⟨n - 1, by omega⟩
    rw [List.length_cons] at h1 h2
    have hg := hlN g List.mem_cons_self
    have hog : od i = nI g := had 0 g rfl
    have had' : arrAt od (i + 1) l := fun j x hx => by
      rw [Nat.add_assoc, Nat.add_comm 1 j]
      exact had (j + 1) x (by simpa using hx)
    rw [List.cons_append] at hnd hall hG
    have hnd' := (List.nodup_cons.mp hnd).2
    obtain ⟨mg1, mg2⟩ := hM g hg
    rw [fX3_letGo_L53, goTR]
    -- one goes, from any state
    have one : ∀ (s : GoS) (all : Int32) (pi : Nat → Nat → Int32), cGo N hp (decide (mi = 1)) bl wh (g :: (l ++ rest)) s li be en ha ld all dn pi hts sps → ((∃ t, tp = some t ∧ i + 1 ≤ t) → s.2.2.2.2.2.2.1 + 60 * (g :: (l ++ rest)).length ≤ 900) →
        ∃ o, fX3_letGo_J67 fuel od w b go (nI hp) se (fX3_letGo_L53 fuel od w b go (nI hp) se (nI p1) (enc tp) n) (nI i) li be en ha ld all dn pi hts sps = some o ∧ o.1 = nI (goTR hp ba (decide (mi = 1)) bl wt mn wh tp (i + 1) (goOneS hp ba (decide (mi = 1)) bl wt mn wh s g) l).2.2.2.2.2.2.1 ∧
        cGo N hp (decide (mi = 1)) bl wh rest (goTR hp ba (decide (mi = 1)) bl wt mn wh tp (i + 1) (goOneS hp ba (decide (mi = 1)) bl wt mn wh s g) l) o.2.1 o.2.2.1 o.2.2.2.1 o.2.2.2.2.1 o.2.2.2.2.2.1 o.2.2.2.2.2.2.1 o.2.2.2.2.2.2.2.1 o.2.2.2.2.2.2.2.2.1 o.2.2.2.2.2.2.2.2.2.1 o.2.2.2.2.2.2.2.2.2.2 := by
      intro s all pi hG hall
      obtain ⟨g1, g2, g3, g4⟩ := hG
      obtain ⟨o, o1, o2, o3, o4⟩ := sX3_goOne (fuel := fuel) hf hhp hN hb hw hwt hM hse hmi hse2 hba hwh hg hnd g1 g2 g3 g4
      have hG' := GI_step (ba := ba) (mn := mn) hhp hN hwt mg2 hnd g1
      have hal := goOne_all (hp := hp) (ba := ba) (mist := decide (mi = 1)) (bl := bl) (wt := wt) (mn := mn) (wh := wh) (g := g) hwt g1
      unfold fX3_letGo_J67
      simp (disch := omega) only [zlit, zz, if_pos, if_neg, if_true, if_false, zgd', zl, zbs, zbz, encz, hog, o1]
      refine ih n (i + 1) _ _ _ _ _ _ _ _ _ _ _ (by omega) (by omega) (fun x hx => hlN x (List.mem_cons_of_mem _ hx)) hnd' had' (fun q => ?_) ⟨hG', o2, o3, o4⟩
      have := hall q
      rw [List.length_cons] at this
      omega
    have hlt : ¬ p1 ≤ i := by omega
    by_cases q : tp = some i
    · subst q
      simp only [if_true]
      have hal9 := hall ⟨i, rfl, Nat.le_refl _⟩
      obtain ⟨g1, g2, g3, g4⟩ := hG
      obtain ⟨o, o1, o2, o3⟩ := sX3_turnAll (fuel := fuel) (all := s.2.2.2.2.2.2.1) hf hhp hN hw g1.1 g4 g1.2.2.2.1
      have ha := g2.2.2.1
      simp (disch := omega) only [zlit, zz, if_pos, if_neg, if_true, if_false, zgd', zl, zbs, zbz, encz, ha, o1]
      rw [o2]
      exact one (turnS wt s) _ _ ⟨GI_turn hwt hal9 g1, ⟨g2.1, g2.2.1, rfl, g2.2.2.2⟩, cSp_turn g3, o3⟩ (fun ⟨t, t1, t2⟩ => by cases t1; omega)
    · simp only [q, if_false]
      have hne : ¬ nI i = enc tp := by
        cases tp with
        | none => exact fun h => nI_m4 (by omega) h
        | some t =>
          have := htp t rfl
          show ¬ nI i = nI t
          rw [nI_eq (by omega) (by omega)]
          exact fun h => q (by rw [h])
      simp (disch := omega) only [zlit, zz, if_pos, if_neg, if_true, if_false, zgd', zl, zbs, zbz, encz, hne]
      exact one s all pi hG (fun ⟨t, t1, t2⟩ => hall ⟨t, t1, by omega⟩)
theorem sX3_letGo_L12 {fuel N hp mi ba : Nat} {bl : Nat → Bool} {wt mn wh : Nat → Nat} {w b go se od : Nat → Int32} {tp : Option Nat} (hf : 100 < fuel) (hhp : hp ≤ 3) (hN : N ≤ 10) (hb : ∀ x, x < N → b x = zb01 (bl x)) (hw : cM w wt N) (hwt : ∀ x, x < N → wt x ≤ 5) (hM : cM go mn N) (hse : se 3 = nI mi) (hmi : mi < 100) (hse2 : se 2 = nI ba) (hba : ba ≤ 2) (hwh : whOk N wh) (htp : ∀ t, tp = some t → t < 1000) (l rest : List Nat) (hp1 : l.length ≤ 10) (hlN : ∀ x ∈ l, x < N) (hnd : (l ++ rest).Nodup) (hper : ∀ x, x < N → x ∈ l ++ rest) (had : arr od l) {H : HP} {pi : Nat → Nat → Int32} {hts sps : Nat → Int32} (hI : GI N hp (decide (mi = 1)) bl wh (l ++ rest) (go0 H)) (hB : cB H pi hts) (hsp : cSp N wh (l ++ rest) H sps) (hlr : (l ++ rest).length ≤ 10) :
    ∀ (m n i : Nat) (li be en ha ld : Nat → Int32), i + m = N → m < n → (∀ x, x < i → li x = nI 0 ∧ ld x = nI 0 ∧ ha x = zNo) →
      ∃ o, fX3_letGo_L12 fuel od w b go (nI hp) (nI N) se (nI l.length) (enc tp) n (nI i) li be en ha ld (nI 0) (nI 0) pi hts sps = some o ∧ o.1 = nI (goTR hp ba (decide (mi = 1)) bl wt mn wh tp 0 (go0 H) l).2.2.2.2.2.2.1 ∧
        cGo N hp (decide (mi = 1)) bl wh rest (goTR hp ba (decide (mi = 1)) bl wt mn wh tp 0 (go0 H) l) o.2.1 o.2.2.1 o.2.2.2.1 o.2.2.2.2.1 o.2.2.2.2.2.1 o.2.2.2.2.2.2.1 o.2.2.2.2.2.2.2.1 o.2.2.2.2.2.2.2.2.1 o.2.2.2.2.2.2.2.2.2.1 o.2.2.2.2.2.2.2.2.2.2 := by
  intro m
  induction m with
  | zero =>
    intro n i li be en ha ld h1 h2 hz
    obtain ⟨n, rfl⟩ : ∃ k, n = k + 1 := ⟨n - 1, by omega⟩
    rw [fX3_letGo_L12]
    simp (disch := omega) only [zlit, zz, if_pos, if_neg, if_true, if_false, zgd', zl, zbs, zbz, encz, fX3_letGo_J51]
    refine sX3_letGo_L53 hf hhp hN hb hw hwt hM hse hmi hse2 hba hwh htp l.length hp1 rest l fuel 0 (go0 H) li be en ha ld (nI 0) (nI 0) pi hts sps (by omega) (by omega) hlN hnd (fun j x hx => by rw [Nat.zero_add]; exact had j x hx) (fun _ => by show 0 + 60 * _ ≤ 900; omega) ⟨hI, ⟨fun x hx => ?_, fun x hx hn => absurd (hper x hx) hn, rfl, rfl⟩, hsp, hB⟩
    obtain ⟨a, c, d⟩ := hz x (by omega)
    exact ⟨a, d, c⟩
  | succ m ih =>
    intro n i li be en ha ld h1 h2 hz
    obtain ⟨n, rfl⟩ : ∃ k, n = k + 1 := ⟨n - 1, by omega⟩
    rw [fX3_letGo_L12]
    simp (disch := omega) only [zlit, zz, if_pos, if_neg, if_true, if_false, zgd', zl, zbs, zbz, encz]
    refine ih n (i + 1) _ _ _ _ _ (by omega) (by omega) (fun x hx => ?_)
    unfold upd
    by_cases q : x = i
    · simp only [q, if_true]
      exact ⟨trivial, trivial, trivial⟩
    · simp only [q, if_false]
      exact hz x (by omega)
