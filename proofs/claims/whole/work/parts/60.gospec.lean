/-! The specification of a night: one goes. -/
/-- does g take the coat c, coming to it -/
def tkS (mist : Bool) (bl : Nat → Bool) (g c : Nat) : Bool := decide (c = g) || (mist && bl g && bl c)
/-- the topmost one of a kind -/
def lastIx (p : Nat → Bool) : List Nat → Option Nat
  | [] => none
  | x :: xs => match lastIx p xs with
    | some i => some (i + 1)
    | none => if p x = true then some 0 else none
theorem lastIx_snoc (p : Nat → Bool) (c : Nat) : ∀ l : List Nat, lastIx p (l ++ [c]) = if p c = true then some l.length else lastIx p l
  | [] => by simp [lastIx]
  | x :: xs => by
    rw [List.cons_append, lastIx, lastIx_snoc p c xs]
    by_cases h : p c = true
    · simp [h]
    · simp [h, lastIx]
theorem lastIx_lt {p : Nat → Bool} : ∀ {l : List Nat} {i : Nat}, lastIx p l = some i → i < l.length
  | [], i, h => by simp [lastIx] at h
  | x :: xs, i, h => by
    rw [lastIx] at h
    split at h
    · rename_i j hj
      cases h
      have := lastIx_lt hj
      simp; omega
    · split at h
      · cases h; simp
      · cases h
theorem lastIx_p {p : Nat → Bool} : ∀ {l : List Nat} {i : Nat}, lastIx p l = some i → ∃ c, l[i]? = some c ∧ p c = true
  | [], i, h => by simp [lastIx] at h
  | x :: xs, i, h => by
    rw [lastIx] at h
    split at h
    · rename_i j hj
      cases h
      obtain ⟨c, h1, h2⟩ := lastIx_p hj
      exact ⟨c, by simpa using h1, h2⟩
    · split at h
      · rename_i q
        cases h
        exact ⟨x, rfl, q⟩
      · cases h
theorem lastIx_none {p : Nat → Bool} : ∀ {l : List Nat}, lastIx p l = none ↔ ∀ x ∈ l, p x = false
  | [] => by simp [lastIx]
  | x :: xs => by
    rw [lastIx]
    have ih := lastIx_none (p := p) (l := xs)
    cases h : lastIx p xs with
    | some i =>
      simp only [reduceCtorEq, false_iff]
      intro q
      rw [ih.mpr (fun y hy => q y (List.mem_cons_of_mem _ hy))] at h
      cases h
    | none =>
      have := ih.mp h
      by_cases q : p x = true
      · simp [q]
      · simp only [q, if_false, true_iff, Bool.false_eq_true]
        intro y hy
        rcases List.mem_cons.mp hy with rfl | hy
        · simpa using q
        · exact this y hy
theorem lastIx_congr {p q : Nat → Bool} : ∀ {l : List Nat}, (∀ x ∈ l, p x = q x) → lastIx p l = lastIx q l
  | [], _ => rfl
  | x :: xs, h => by
    rw [lastIx, lastIx, lastIx_congr (fun y hy => h y (List.mem_cons_of_mem _ hy)), h x List.mem_cons_self]
/-- which heap one digs in -/
def srcS (hp : Nat) (bl : Nat → Bool) (H : HP) (g : Nat) : Option Nat := match (List.range hp).find? (fun h => decide (g ∈ H h)) with
  | some h => some h
  | none => (List.range hp).find? (fun h => (H h).any bl)
/-- what was lifted is laid back -/
def backS (hp ba h : Nat) (H : HP) (base above : List Nat) : HP :=
  if ba = 0 then va_up H h (base ++ above)
  else if ba = 2 ∧ 1 < hp then va_up (va_up H h base) ((h + 1) % hp) (H ((h + 1) % hp) ++ above.reverse)
  else va_up H h (base ++ above.reverse)
def sumW (wt : Nat → Nat) (l : List Nat) : Nat := (l.map wt).sum
/-- heaps, whose coat, lifts, begins, leaves, lifted, all lifts, busy until -/
abbrev GoS : Type := HP × (Nat → Option Nat) × (Nat → Nat) × (Nat → Nat) × (Nat → Nat) × (Nat → Nat) × Nat × Nat
def spotS (hp : Nat) (mist : Bool) (bl : Nat → Bool) (H : HP) (g : Nat) : Option (Nat × Nat) := match srcS hp bl H g with
  | none => none
  | some h => match lastIx (tkS mist bl g) (H h) with
    | none => none
    | some i => some (h, i)
def goOneS (hp ba : Nat) (mist : Bool) (bl : Nat → Bool) (wt mn wh : Nat → Nat) (s : GoS) (g : Nat) : GoS :=
  if 9 ≤ wh g then (s.1, va_up s.2.1 g (some g), s.2.2.1, va_up s.2.2.2.1 g (mn g), va_up s.2.2.2.2.1 g (mn g), s.2.2.2.2.2.1, s.2.2.2.2.2.2.1, s.2.2.2.2.2.2.2)
  else match spotS hp mist bl s.1 g with
    | none => (s.1, s.2.1, s.2.2.1, va_up s.2.2.2.1 g (max (mn g) s.2.2.2.2.2.2.2), va_up s.2.2.2.2.1 g (max (mn g) s.2.2.2.2.2.2.2 + s.2.2.1 g), s.2.2.2.2.2.1, s.2.2.2.2.2.2.1, max (mn g) s.2.2.2.2.2.2.2 + s.2.2.1 g)
    | some (h, i) =>
      (backS hp ba h s.1 ((s.1 h).take i) ((s.1 h).drop (i + 1)), va_up s.2.1 g ((s.1 h)[i]?), va_up s.2.2.1 g (s.2.2.1 g + sumW wt ((s.1 h).drop (i + 1))), va_up s.2.2.2.1 g (max (mn g) s.2.2.2.2.2.2.2),
        va_up s.2.2.2.2.1 g (max (mn g) s.2.2.2.2.2.2.2 + (s.2.2.1 g + sumW wt ((s.1 h).drop (i + 1)))), (fun c => s.2.2.2.2.2.1 c + ((s.1 h).drop (i + 1)).count c), s.2.2.2.2.2.2.1 + sumW wt ((s.1 h).drop (i + 1)), max (mn g) s.2.2.2.2.2.2.2 + (s.2.2.1 g + sumW wt ((s.1 h).drop (i + 1))))
/-- all coats on heaps -/
def flat (H : HP) : List Nat := H 0 ++ (H 1 ++ H 2)
theorem mem_flat {H : HP} {x : Nat} : x ∈ flat H ↔ ∃ h, h < 3 ∧ x ∈ H h := by
  unfold flat
  rw [List.mem_append, List.mem_append]
  constructor
  · rintro (h | h | h)
    · exact ⟨0, by omega, h⟩
    · exact ⟨1, by omega, h⟩
    · exact ⟨2, by omega, h⟩
  · rintro ⟨h, h3, hx⟩
    rcases (show h = 0 ∨ h = 1 ∨ h = 2 by omega) with rfl | rfl | rfl
    · exact Or.inl hx
    · exact Or.inr (Or.inl hx)
    · exact Or.inr (Or.inr hx)
theorem count_flat (H : HP) (x : Nat) : (flat H).count x = (H 0).count x + ((H 1).count x + (H 2).count x) := by
  unfold flat
  rw [List.count_append, List.count_append]
/-- a coat is taken: the others stay -/
theorem back_perm {hp ba h c : Nat} {H : HP} {base above : List Nat} (hhp : hp ≤ 3) (hh : h < hp) (hH : H h = base ++ c :: above) : (flat H).Perm (c :: flat (backS hp ba h H base above)) := by
  rw [List.perm_iff_count]
  intro x
  rw [List.count_cons, count_flat, count_flat]
  have e : (H h).count x = base.count x + ((above.count x) + if c == x then 1 else 0) := by rw [hH, List.count_append, List.count_cons]
  have hn := Nat.mod_lt (h + 1) (show 0 < hp by omega)
  have hne : 1 < hp → (h + 1) % hp ≠ h := by
    intro h1
    by_cases q : h + 1 < hp
    · rw [Nat.mod_eq_of_lt q]; omega
    · rw [show h + 1 = hp by omega, Nat.mod_self]; omega
  unfold backS
  generalize (h + 1) % hp = nx at hn hne ⊢
  generalize (if (c == x) = true then 1 else 0) = cx at e ⊢
  rcases (show h = 0 ∨ h = 1 ∨ h = 2 by omega) with rfl | rfl | rfl
  all_goals
    split
    · simp [va_up, List.count_append]
      omega
    · split
      · rename_i hq
        have hne := hne hq.2
        rcases (show nx = 0 ∨ nx = 1 ∨ nx = 2 by omega) with rfl | rfl | rfl
        all_goals first | omega | (simp [va_up, List.count_append]; omega)
      · simp [va_up, List.count_append]
        omega
theorem back_flat {hp ba h c x : Nat} {H : HP} {base above : List Nat} (hhp : hp ≤ 3) (hh : h < hp) (hH : H h = base ++ c :: above) (hnd : (flat H).Nodup) : (x ∈ flat (backS hp ba h H base above) ↔ x ∈ flat H ∧ x ≠ c) ∧ (flat (backS hp ba h H base above)).Nodup := by
  have hp1 := back_perm (ba := ba) hhp hh hH
  have hnd2 := hp1.nodup_iff.mp hnd
  rw [List.nodup_cons] at hnd2
  refine ⟨?_, hnd2.2⟩
  rw [hp1.mem_iff, List.mem_cons]
  constructor
  · intro h
    exact ⟨Or.inr h, fun q => hnd2.1 (q ▸ h)⟩
  · rintro ⟨h | h, q⟩
    · exact absurd h q
    · exact h
theorem backS_ge {hp ba h k : Nat} {H : HP} {base above : List Nat} (hh : h < hp) (hk : hp ≤ k) : backS hp ba h H base above k = H k := by
  have hn := Nat.mod_lt (h + 1) (show 0 < hp by omega)
  unfold backS
  split
  · show va_up _ _ _ k = _
    unfold va_up
    rw [if_neg (by omega)]
  · split
    · show va_up (va_up _ _ _) _ _ k = _
      unfold va_up
      rw [if_neg (by omega), if_neg (by omega)]
    · show va_up _ _ _ k = _
      unfold va_up
      rw [if_neg (by omega)]
theorem sumW_append (wt : Nat → Nat) (a b : List Nat) : sumW wt (a ++ b) = sumW wt a + sumW wt b := by unfold sumW; simp
theorem sumW_le {wt : Nat → Nat} {l : List Nat} (h : ∀ x ∈ l, wt x ≤ 5) : sumW wt l ≤ 5 * l.length := by
  induction l with
  | nil => simp [sumW]
  | cons a l ih =>
    have h1 := h a List.mem_cons_self
    have h2 := ih (fun x hx => h x (List.mem_cons_of_mem _ hx))
    have : sumW wt (a :: l) = wt a + sumW wt l := by simp [sumW]
    rw [this, List.length_cons]
    omega
/-- what holds between two who go; rem: those who are still there -/
def GI (N hp : Nat) (mist : Bool) (bl : Nat → Bool) (wh : Nat → Nat) (rem : List Nat) (s : GoS) : Prop :=
  okH N s.1 ∧ (flat s.1).Nodup ∧ (flat s.1).length ≤ 10 ∧ (∀ h, hp ≤ h → s.1 h = []) ∧ (∀ h x, x ∈ s.1 h → wh x < 3) ∧ (∀ x ∈ rem, wh x < 9 → x ∈ flat s.1 ∨ (mist = true ∧ bl x = true)) ∧ (∀ x ∈ rem, s.2.2.1 x = 0 ∧ s.2.1 x = none) ∧ s.2.2.2.2.2.2.1 + 60 * rem.length ≤ 1000 ∧ s.2.2.2.2.2.2.2 + 60 * rem.length ≤ 3000
theorem flat_len (H : HP) : (flat H).length = (H 0).length + ((H 1).length + (H 2).length) := by unfold flat; simp
theorem len_flat {H : HP} (h : Nat) (h3 : h < 3) : (H h).length ≤ (flat H).length := by
  rw [flat_len]
  rcases (show h = 0 ∨ h = 1 ∨ h = 2 by omega) with rfl | rfl | rfl <;> omega
theorem src_lt {hp g h : Nat} {bl : Nat → Bool} {H : HP} (e : srcS hp bl H g = some h) : h < hp := by
  unfold srcS at e
  split at e
  · rename_i h' q
    cases e
    exact List.mem_range.mp (List.mem_of_find?_eq_some q)
  · exact List.mem_range.mp (List.mem_of_find?_eq_some e)
theorem spot_ok {hp g h i : Nat} {mist : Bool} {bl : Nat → Bool} {H : HP} (e : spotS hp mist bl H g = some (h, i)) : h < hp ∧ i < (H h).length ∧ ∃ c, (H h)[i]? = some c ∧ tkS mist bl g c = true ∧ H h = (H h).take i ++ c :: (H h).drop (i + 1) := by
  unfold spotS at e
  split at e
  · cases e
  · rename_i h' q
    split at e
    · cases e
    · rename_i i' q2
      cases e
      obtain ⟨c, c1, c2⟩ := lastIx_p q2
      refine ⟨src_lt q, lastIx_lt q2, c, c1, c2, ?_⟩
      have hlt := lastIx_lt q2
      have : c = (H h)[i] := by
        rw [List.getElem?_eq_getElem hlt] at c1
        exact (Option.some.inj c1).symm
      rw [this, List.getElem_cons_drop, List.take_append_drop]
theorem GI_step {N hp ba : Nat} {mist : Bool} {bl : Nat → Bool} {wt mn wh : Nat → Nat} {g : Nat} {rem : List Nat} {s : GoS} (hhp : hp ≤ 3) (hN : N ≤ 10) (hwt : ∀ x, x < N → wt x ≤ 5) (hmn : mn g < 1000) (hnd : (g :: rem).Nodup) (hI : GI N hp mist bl wh (g :: rem) s) :
    GI N hp mist bl wh rem (goOneS hp ba mist bl wt mn wh s g) := by
  obtain ⟨i1, i2, i3, i4, i5, i6, i7, i8, i9⟩ := hI
  rw [List.nodup_cons] at hnd
  rw [List.length_cons] at i8 i9
  have hg : ∀ x ∈ rem, x ≠ g := fun x hx q => hnd.1 (q ▸ hx)
  unfold goOneS
  by_cases hf : 9 ≤ wh g
  · rw [if_pos hf]
    refine ⟨i1, i2, i3, i4, i5, fun x hx => i6 x (List.mem_cons_of_mem _ hx), fun x hx => ?_, by show s.2.2.2.2.2.2.1 + 60 * rem.length ≤ 1000; omega, by show s.2.2.2.2.2.2.2 + 60 * rem.length ≤ 3000; omega⟩
    have := i7 x (List.mem_cons_of_mem _ hx)
    exact ⟨this.1, by show va_up s.2.1 g (some g) x = none; simp [va_up, hg x hx, this.2]⟩
  · rw [if_neg hf]
    have hl0 := (i7 g List.mem_cons_self).1
    cases hs : spotS hp mist bl s.1 g with
    | none =>
      refine ⟨i1, i2, i3, i4, i5, fun x hx => i6 x (List.mem_cons_of_mem _ hx), fun x hx => i7 x (List.mem_cons_of_mem _ hx), by show s.2.2.2.2.2.2.1 + 60 * rem.length ≤ 1000; omega, ?_⟩
      show max (mn g) s.2.2.2.2.2.2.2 + s.2.2.1 g + 60 * rem.length ≤ 3000
      have := Nat.max_le.mpr ⟨Nat.le_refl (mn g), Nat.le_refl (mn g)⟩
      omega
    | some q =>
      obtain ⟨h, i⟩ := q
      obtain ⟨s1, s2, c, s3, s4, s5⟩ := spot_ok hs
      have hb := fun x => back_flat (ba := ba) (x := x) hhp s1 s5 i2
      have hpm := back_perm (ba := ba) hhp s1 s5
      have hlen := hpm.length_eq
      rw [List.length_cons] at hlen
      have hwl : sumW wt ((s.1 h).drop (i + 1)) ≤ 50 := by
        have h1 := sumW_le (wt := wt) (l := (s.1 h).drop (i + 1)) (fun x hx => hwt x ((i1 h).2 x (List.mem_of_mem_drop hx)))
        have h2 := (i1 h).1
        rw [List.length_drop] at h1
        omega
      have hmem : ∀ k x, x ∈ backS hp ba h s.1 ((s.1 h).take i) ((s.1 h).drop (i + 1)) k → x ∈ flat s.1 := by
        intro k x hx
        by_cases k3 : k < 3
        · exact ((hb x).1.mp (mem_flat.mpr ⟨k, k3, hx⟩)).1
        · rw [backS_ge s1 (by omega), i4 k (by omega)] at hx
          simp at hx
      refine ⟨fun k => ⟨?_, fun x hx => ?_⟩, (hb 0).2, ?_, fun k hk => ?_, fun k x hx => ?_, fun x hx hw => ?_, fun x hx => ?_, ?_, ?_⟩
      · show (backS hp ba h s.1 ((s.1 h).take i) ((s.1 h).drop (i + 1)) k).length ≤ 10
        by_cases k3 : k < 3
        · have := len_flat (H := backS hp ba h s.1 ((s.1 h).take i) ((s.1 h).drop (i + 1))) k k3
          omega
        · rw [backS_ge s1 (by omega)]
          exact (i1 k).1
      · obtain ⟨k2, _, hk2⟩ := mem_flat.mp (hmem k x hx)
        exact (i1 k2).2 x hk2
      · show (flat (backS hp ba h s.1 ((s.1 h).take i) ((s.1 h).drop (i + 1)))).length ≤ 10
        omega
      · show backS hp ba h s.1 ((s.1 h).take i) ((s.1 h).drop (i + 1)) k = []
        rw [backS_ge s1 hk]
        exact i4 k hk
      · obtain ⟨k2, _, hk2⟩ := mem_flat.mp (hmem k x hx)
        exact i5 k2 x hk2
      · rcases i6 x (List.mem_cons_of_mem _ hx) hw with q | q
        · by_cases qc : x = c
          · right
            have hcg : ¬ c = g := fun e => hg x hx (qc.trans e)
            simp only [tkS, hcg, decide_false, Bool.false_or, Bool.and_eq_true] at s4
            rw [qc]
            exact ⟨s4.1.1, s4.2⟩
          · exact Or.inl ((hb x).1.mpr ⟨q, qc⟩)
        · exact Or.inr q
      · have := i7 x (List.mem_cons_of_mem _ hx)
        exact ⟨by show va_up s.2.2.1 g _ x = 0; simp [va_up, hg x hx, this.1], by show va_up s.2.1 g _ x = none; simp [va_up, hg x hx, this.2]⟩
      · show s.2.2.2.2.2.2.1 + sumW wt ((s.1 h).drop (i + 1)) + 60 * rem.length ≤ 1000
        omega
      · show max (mn g) s.2.2.2.2.2.2.2 + (s.2.2.1 g + sumW wt ((s.1 h).drop (i + 1))) + 60 * rem.length ≤ 3000
        omega
