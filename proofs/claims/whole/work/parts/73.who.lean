/-! Who has whose coat. -/
def HI (N : Nat) (wh : Nat → Nat) (s : GoS) : Prop :=
  (∀ x c, s.2.1 x = some c → x < N ∧ c < N) ∧ (∀ x y c, s.2.1 x = some c → s.2.1 y = some c → x = y) ∧ (∀ x c, s.2.1 x = some c → c ∉ flat s.1 ∧ (9 ≤ wh c → c = x)) ∧ (∀ x, s.2.2.2.2.1 x ≤ 3000) ∧ ∀ x, s.2.2.1 x ≤ 1000
theorem HI_turn {N : Nat} {wh wt : Nat → Nat} {s : GoS} (h : HI N wh s) : HI N wh (turnS wt s) :=
  ⟨h.1, h.2.1, fun x c e => ⟨fun q => (h.2.2.1 x c e).1 ((turn_perm s.1).mem_iff.mp q), (h.2.2.1 x c e).2⟩, h.2.2.2⟩
theorem HI_step {N hp ba : Nat} {mist : Bool} {bl : Nat → Bool} {wt mn wh : Nat → Nat} {g : Nat} {rem : List Nat} {s : GoS} (hhp : hp ≤ 3) (hN : N ≤ 10) (hwt : ∀ x, x < N → wt x ≤ 5) (hmn : mn g < 1000) (hg : g < N) (hnd : (g :: rem).Nodup) (hI : GI N hp mist bl wh (g :: rem) s) (h : HI N wh s) : HI N wh (goOneS hp ba mist bl wt mn wh s g) := by
  have hI2 := GI_step (ba := ba) (mn := mn) hhp hN hwt hmn hnd hI
  obtain ⟨i1, i2, i3, i4, i5, i6, i7, i8, i9⟩ := hI
  obtain ⟨a, b, c, d, f⟩ := h
  obtain ⟨l0, n0⟩ := i7 g List.mem_cons_self
  have j8 := hI2.2.2.2.2.2.2.2.1
  have j9 := hI2.2.2.2.2.2.2.2.2
  unfold goOneS at hI2 j8 j9 ⊢
  by_cases hf : 9 ≤ wh g
  · rw [if_pos hf] at hI2 j8 j9 ⊢
    refine ⟨fun x y e => ?_, fun x y z e1 e2 => ?_, fun x y e => ?_, fun x => ?_, f⟩
    · by_cases q : x = g
      · subst q
        simp only [va_up, if_true] at e
        cases e
        exact ⟨hg, hg⟩
      · simp only [va_up, q, if_false] at e
        exact a x y e
    · by_cases q : x = g
      · subst q
        simp only [va_up, if_true] at e1
        cases e1
        by_cases q2 : y = x
        · exact q2.symm
        · simp only [va_up, q2, if_false] at e2
          exact (c y x e2).2 hf
      · simp only [va_up, q, if_false] at e1
        by_cases q2 : y = g
        · subst q2
          simp only [va_up, if_true] at e2
          cases e2
          exact ((c x y e1).2 hf).symm
        · simp only [va_up, q2, if_false] at e2
          exact b x y z e1 e2
    · by_cases q : x = g
      · subst q
        simp only [va_up, if_true] at e
        cases e
        refine ⟨fun h => ?_, fun _ => rfl⟩
        obtain ⟨k, _, hk⟩ := mem_flat.mp h
        have := i5 k x hk
        omega
      · simp only [va_up, q, if_false] at e
        exact c x y e
    · show va_up s.2.2.2.2.1 g (mn g) x ≤ 3000
      unfold va_up
      split
      · omega
      · exact d x
  · rw [if_neg hf] at hI2 j8 j9 ⊢
    cases hs : spotS hp mist bl s.1 g with
    | none =>
      rw [hs] at j9
      refine ⟨a, b, c, fun x => ?_, f⟩
      show va_up s.2.2.2.2.1 g (max (mn g) s.2.2.2.2.2.2.2 + s.2.2.1 g) x ≤ 3000
      have : max (mn g) s.2.2.2.2.2.2.2 + s.2.2.1 g + 60 * rem.length ≤ 3000 := j9
      unfold va_up
      split
      · omega
      · exact d x
    | some q =>
      obtain ⟨h, i⟩ := q
      rw [hs] at j8 j9
      obtain ⟨s1, s2, co, s3, s4, s5⟩ := spot_ok hs
      have hb := fun x => back_flat (ba := ba) (x := x) hhp s1 s5 i2
      have hcf : co ∈ flat s.1 := mem_flat.mpr ⟨h, by omega, List.mem_of_getElem? s3⟩
      have hw3 := i5 h co (List.mem_of_getElem? s3)
      have e8 : s.2.2.2.2.2.2.1 + sumW wt ((s.1 h).drop (i + 1)) + 60 * rem.length ≤ 1000 := j8
      have e9 : max (mn g) s.2.2.2.2.2.2.2 + (s.2.2.1 g + sumW wt ((s.1 h).drop (i + 1))) + 60 * rem.length ≤ 3000 := j9
      refine ⟨fun x y e => ?_, fun x y z e1 e2 => ?_, fun x y e => ?_, fun x => ?_, fun x => ?_⟩
      · by_cases q : x = g
        · subst q
          simp only [va_up, if_true, s3] at e
          cases e
          exact ⟨hg, (i1 h).2 co (List.mem_of_getElem? s3)⟩
        · simp only [va_up, q, if_false] at e
          exact a x y e
      · by_cases q : x = g
        · subst q
          simp only [va_up, if_true, s3] at e1
          cases e1
          by_cases q2 : y = x
          · exact q2.symm
          · simp only [va_up, q2, if_false] at e2
            exact absurd hcf (c y co e2).1
        · simp only [va_up, q, if_false] at e1
          by_cases q2 : y = g
          · subst q2
            simp only [va_up, if_true, s3] at e2
            cases e2
            exact absurd hcf (c x co e1).1
          · simp only [va_up, q2, if_false] at e2
            exact b x y z e1 e2
      · show y ∉ flat (backS hp ba h s.1 ((s.1 h).take i) ((s.1 h).drop (i + 1))) ∧ (9 ≤ wh y → y = x)
        by_cases q : x = g
        · subst q
          simp only [va_up, if_true, s3] at e
          cases e
          exact ⟨fun h => ((hb co).1.mp h).2 rfl, fun h => by omega⟩
        · simp only [va_up, q, if_false] at e
          exact ⟨fun h => (c x y e).1 ((hb y).1.mp h).1, (c x y e).2⟩
      · show va_up s.2.2.2.2.1 g (max (mn g) s.2.2.2.2.2.2.2 + (s.2.2.1 g + sumW wt ((s.1 h).drop (i + 1)))) x ≤ 3000
        unfold va_up
        split
        · omega
        · exact d x
      · show va_up s.2.2.1 g (s.2.2.1 g + sumW wt ((s.1 h).drop (i + 1))) x ≤ 1000
        unfold va_up
        split
        · omega
        · exact f x
theorem HI_goTR {N hp ba : Nat} {mist : Bool} {bl : Nat → Bool} {wt mn wh : Nat → Nat} {tp : Option Nat} {rest : List Nat} (hhp : hp ≤ 3) (hN : N ≤ 10) (hwt : ∀ x, x < N → wt x ≤ 5) (hmn : ∀ x, x < N → mn x < 1000) :
    ∀ (l : List Nat) (i : Nat) (s : GoS), (∀ x ∈ l, x < N) → (l ++ rest).Nodup → ((∃ t, tp = some t ∧ i ≤ t) → s.2.2.2.2.2.2.1 + 60 * (l ++ rest).length ≤ 900) → GI N hp mist bl wh (l ++ rest) s → HI N wh s →
      HI N wh (goTR hp ba mist bl wt mn wh tp i s l) ∧ GI N hp mist bl wh rest (goTR hp ba mist bl wt mn wh tp i s l) := by
  intro l
  induction l with
  | nil => intro i s _ _ _ hG hH; exact ⟨hH, hG⟩
  | cons g l ih =>
    intro i s hlN hnd hall hG hH
    rw [List.cons_append] at hnd hall hG
    rw [goTR]
    have hg := hlN g List.mem_cons_self
    have one : ∀ s : GoS, GI N hp mist bl wh (g :: (l ++ rest)) s → HI N wh s → ((∃ t, tp = some t ∧ i + 1 ≤ t) → s.2.2.2.2.2.2.1 + 60 * (g :: (l ++ rest)).length ≤ 900) → HI N wh (goTR hp ba mist bl wt mn wh tp (i + 1) (goOneS hp ba mist bl wt mn wh s g) l) ∧ GI N hp mist bl wh rest (goTR hp ba mist bl wt mn wh tp (i + 1) (goOneS hp ba mist bl wt mn wh s g) l) := by
      intro s hG hH hall
      have hal := goOne_all (hp := hp) (ba := ba) (mist := mist) (bl := bl) (wt := wt) (mn := mn) (wh := wh) (g := g) hwt hG
      refine ih (i + 1) _ (fun x hx => hlN x (List.mem_cons_of_mem _ hx)) (List.nodup_cons.mp hnd).2 (fun q => ?_) (GI_step (ba := ba) (mn := mn) hhp hN hwt (hmn g hg) hnd hG) (HI_step hhp hN hwt (hmn g hg) hg hnd hG hH)
      have := hall q
      rw [List.length_cons] at this
      omega
    by_cases q : tp = some i
    · subst q
      simp only [if_true]
      exact one _ (GI_turn hwt (hall ⟨i, rfl, Nat.le_refl _⟩) hG) (HI_turn hH) (fun ⟨t, t1, t2⟩ => by cases t1; omega)
    · simp only [q, if_false]
      exact one s hG hH (fun ⟨t, t1, t2⟩ => hall ⟨t, t1, by omega⟩)
theorem HI_0 (N : Nat) (wh : Nat → Nat) (H : HP) : HI N wh (go0 H) := ⟨fun _ _ e => (by cases e), fun _ _ _ e => (by cases e), fun _ _ e => (by cases e), fun _ => Nat.zero_le _, fun _ => Nat.zero_le _⟩
theorem HI_goR {r : SR} {S : LayS} {cs od rest : List Nat} {tp : Option Nat} (hr : okR r) (hcs : okC r cs) (hod : (od ++ rest).Perm cs) (hI : LI (rHp r) cs S) : HI (rN r) S.2.2 (goR r S tp od) ∧ GI (rN r) (rHp r) (miR r) (blR r) S.2.2 rest (goR r S tp od) := by
  have hlr : (od ++ rest).length ≤ 10 := by rw [hod.length_eq]; exact hcs.2.2
  exact HI_goTR hr.2.2.2.1 hr.1 (wtR_le hr) (fun x hx => mnR_lt hr hx) od 0 _ (fun x hx => hcs.2.1 x (hod.mem_iff.mp (List.mem_append_left _ hx))) (hod.nodup_iff.mpr hcs.1) (fun _ => by show 0 + 60 * _ ≤ 900; omega) (LI_GI hr.2.2.2.1 hcs.2.2 hcs.2.1 hI hlr (fun x hx => hod.mem_iff.mp hx)) (HI_0 _ _ _)
theorem HI_night {r : SR} (hr : okR r) : HI (rN r) (layR r (List.range (rN r))).2.2 (nightR r) := (HI_goR (rest := []) hr (okC_range hr) (by rw [List.append_nil]; exact odR_perm r) (LI_C hr (okC_range hr))).1
