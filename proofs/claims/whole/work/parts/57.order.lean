/-! Minutes, weights, the order of going. -/
theorem nI_zmax {a b : Nat} (ha : a < 2 ^ 31) (hb : b < 2 ^ 31) : zmax (nI a) (nI b) = nI (max a b) := by
  unfold zmax
  simp only [nI_ltI ha hb]
  split
  · rw [Nat.max_eq_right (by omega)]
  · rw [Nat.max_eq_left (by omega)]
theorem nI_zmin {a b : Nat} (ha : a < 2 ^ 31) (hb : b < 2 ^ 31) : zmin (nI a) (nI b) = nI (min a b) := by
  unfold zmin
  simp only [nI_ltI hb ha]
  split
  · rw [Nat.min_eq_right (by omega)]
  · rw [Nat.min_eq_left (by omega)]
theorem nI_max0 {a b : Nat} (ha : a < 2 ^ 30) (hb : b < 2 ^ 30) : zmax (nI 0) (nI a - nI b) = nI (a - b) := by
  by_cases h : b ≤ a
  · rw [nI_sub h, nI_zmax (by omega) (by omega)]
    rw [Nat.zero_max]
  · have h1 : ¬ nI 0 < nI a - nI b := by
      rw [Int32.lt_iff_toInt_lt, pk_sub_toInt ha hb, nI_toInt (by omega)]
      omega
    unfold zmax
    rw [if_neg h1, show a - b = 0 by omega]
theorem sX1_weight {fuel k f : Nat} (hk : k ≤ 7) (hf : f ≤ 9) : fX1_weight fuel (nI k) (nI f) = some (nI (wtS k f)) := by
  have h : ∀ k, k < 8 → ∀ f, f < 10 → fX1_weight 0 (nI k) (nI f) = some (nI (wtS k f)) := by decide +kernel
  exact h k (by omega) f (by omega)
theorem sX10_lift {fuel k f : Nat} (hk : k ≤ 7) (hf : f ≤ 9) : fX10_lift fuel (nI k) (nI f) = some (nI (wtS k f)) := by
  have h : ∀ k, k < 8 → ∀ f, f < 10 → fX10_lift 0 (nI k) (nI f) = some (nI (wtS k f)) := by decide +kernel
  exact h k (by omega) f (by omega)
theorem wtS_le {k f : Nat} (hf : f ≤ 9) : wtS k f ≤ 5 := by
  unfold wtS
  repeat' split
  all_goals omega
theorem sX1_isBlack {fuel k : Nat} (hk : k ≤ 7) : fX1_isBlack fuel (nI k) = some (zb01 (blS k)) := by
  have h : ∀ k, k < 8 → fX1_isBlack 0 (nI k) = some (zb01 (blS k)) := by decide +kernel
  exact h k (by omega)
theorem sX1_spare {fuel k f : Nat} (hk : k ≤ 7) (hf : f ≤ 9) : fX1_spare fuel (nI k) (nI f) = some (nI (spS k f)) := by
  have h : ∀ k, k < 8 → ∀ f, f < 10 → fX1_spare 0 (nI k) (nI f) = some (nI (spS k f)) := by decide +kernel
  exact h k (by omega) f (by omega)
theorem sX1_minute {fuel k f m : Nat} (hk : k ≤ 7) (hf : f ≤ 9) (hm : m < 1000) : fX1_minute fuel (nI k) (nI f) (nI m) = some (nI (goS k f m)) := by
  unfold fX1_minute goS
  by_cases h5 : k = 5
  · subst h5
    simp (disch := omega) only [zlit, zz, if_pos, if_neg, if_true, if_false, zgd', zl, zbs, zbz, encz, nI_max0]
  · by_cases h7 : k = 7
    · subst h7
      simp (disch := omega) only [zlit, zz, if_pos, if_neg, if_true, if_false, zgd', zl, zbs, zbz, encz]
    · simp (disch := omega) only [zlit, zz, if_pos, if_neg, if_true, if_false, zgd', zl, zbs, zbz, encz]
theorem sX10_goesBy {fuel k f m : Nat} (hk : k ≤ 7) (hf : f ≤ 9) (hm : m < 1000) : fX10_goesBy fuel (nI k) (nI f) (nI m) = some (nI (goS k f m)) := by
  unfold fX10_goesBy goS
  by_cases h5 : k = 5
  · subst h5
    simp (disch := omega) only [zlit, zz, if_pos, if_neg, if_true, if_false, zgd', zl, zbs, zbz, encz, nI_max0]
  · by_cases h7 : k = 7
    · subst h7
      simp (disch := omega) only [zlit, zz, if_pos, if_neg, if_true, if_false, zgd', zl, zbs, zbz, encz]
    · simp (disch := omega) only [zlit, zz, if_pos, if_neg, if_true, if_false, zgd', zl, zbs, zbz, encz]
theorem goS_lt {k f m : Nat} (hm : m < 1000) : goS k f m < 1000 := by
  unfold goS
  repeat' split
  all_goals omega
/-- kinds, figures and minutes of the first N -/
def kfm (N : Nat) (K F M : Nat → Nat) (ki fi mi : Nat → Int32) : Prop := ∀ i, i < N → ki i = nI (K i) ∧ K i ≤ 7 ∧ fi i = nI (F i) ∧ F i ≤ 9 ∧ mi i = nI (M i) ∧ M i < 200
/-- one is put into its place among those who go, the last ahead -/
def insR (mn : Nat → Nat) (g : Nat) : List Nat → List Nat
  | [] => [g]
  | x :: xs => if mn g < mn x then x :: insR mn g xs else g :: x :: xs
def ordR (mn : Nat → Nat) (cs : List Nat) : List Nat := cs.foldl (fun l g => insR mn g l) []
def ordS (mn : Nat → Nat) (cs : List Nat) : List Nat := (ordR mn cs).reverse
theorem insR_length (mn : Nat → Nat) (g : Nat) (l : List Nat) : (insR mn g l).length = l.length + 1 := by
  induction l with
  | nil => rfl
  | cons x xs ih => rw [insR]; split <;> simp [ih]
theorem insR_perm (mn : Nat → Nat) (g : Nat) (l : List Nat) : (insR mn g l).Perm (g :: l) := by
  induction l with
  | nil => exact List.Perm.refl _
  | cons x xs ih =>
    rw [insR]
    split
    · exact (List.Perm.cons x ih).trans (List.Perm.swap g x xs)
    · exact List.Perm.refl _
theorem ordR_perm (mn : Nat → Nat) (cs : List Nat) : (ordR mn cs).Perm cs := by
  have h : ∀ (cs l : List Nat), (cs.foldl (fun l g => insR mn g l) l).Perm (l ++ cs) := by
    intro cs
    induction cs with
    | nil => intro l; simp
    | cons g cs ih =>
      intro l
      rw [List.foldl_cons]
      refine (ih _).trans ?_
      refine ((insR_perm mn g l).append_right cs).trans ?_
      exact (List.perm_middle (a := g) (l₁ := l) (l₂ := cs)).symm
  simpa [ordR] using h cs []
theorem ordS_perm (mn : Nat → Nat) (cs : List Nat) : (ordS mn cs).Perm cs := (List.reverse_perm _).trans (ordR_perm mn cs)
theorem ordS_length (mn : Nat → Nat) (cs : List Nat) : (ordS mn cs).length = cs.length := (ordS_perm mn cs).length_eq
/-- an array behind a place -/
def arrAt (a : Nat → Int32) (p : Nat) (l : List Nat) : Prop := ∀ i x, l[i]? = some x → a (p + i) = nI x
theorem arr_mid {a : Nat → Int32} {l d : List Nat} {g : Nat} (h1 : arr a l) (h2 : arrAt a (l.length + 1) d) : arr (upd a l.length (nI g)) (l ++ g :: d) := by
  intro i x hx
  unfold upd
  rw [List.getElem?_append] at hx
  split at hx
  · rw [if_neg (by omega)]
    exact h1 i x hx
  · rename_i hi
    by_cases q : i = l.length
    · subst q
      simp at hx
      rw [if_pos rfl, hx]
    · rw [if_neg q]
      obtain ⟨k, hk⟩ : ∃ k, i - l.length = k + 1 := ⟨i - l.length - 1, by omega⟩
      rw [hk, List.getElem?_cons_succ] at hx
      have := h2 k x hx
      rw [show l.length + 1 + k = i by omega] at this
      exact this
theorem arr_sub {a : Nat → Int32} {l d : List Nat} (h : arr a (l ++ d)) : arr a l := fun i x hx => h i x (by rw [List.getElem?_append_left (List.getElem?_eq_some_iff.mp hx).1]; exact hx)
theorem sX3_sort_L15 {N g : Nat} {mn : Nat → Nat} {go : Nat → Int32} (hN : N ≤ 10) (hM : cM go mn N) (hg : g < N) (k2 : Int32 → (Nat → Int32) → Option (Nat → Int32)) :
    ∀ (xs d : List Nat) (a : Nat → Int32) (n : Nat), (∀ x ∈ xs, x < N) → xs.length + d.length ≤ 9 → xs.length < n → arr a xs.reverse → arrAt a (xs.length + 1) d → ∃ a', fX3_sortByGoing_L15 go k2 n (nI g) (nI xs.length) a = k2 (nI (g + 1)) a' ∧ arr a' ((insR mn g xs).reverse ++ d) := by
  obtain ⟨g1, g2⟩ := hM g hg
  intro xs
  induction xs with
  | nil =>
    intro d a n h1 h2 h3 h4 h5
    obtain ⟨n, rfl⟩ : ∃ k, n = k + 1 := ⟨n - 1, by omega⟩
    rw [fX3_sortByGoing_L15]
    have h2' : d.length ≤ 9 := by simpa using h2
    simp (disch := omega) only [zlit, zz, if_pos, if_neg, if_true, if_false, zgd', zl, zbs, zbz, encz, List.length_nil, fX3_sortByGoing_J61]
    exact ⟨_, rfl, arr_mid (l := []) h4 h5⟩
  | cons x xs ih =>
    intro d a n h1 h2 h3 h4 h5
    obtain ⟨n, rfl⟩ : ∃ k, n = k + 1 := ⟨n - 1, by omega⟩
    rw [List.length_cons] at h2 h3
    have hx := h1 x List.mem_cons_self
    obtain ⟨m1, m2⟩ := hM x hx
    have ha : a xs.length = nI x := h4 xs.length x (by rw [List.reverse_cons, List.getElem?_append_right (by simp)]; simp)
    rw [fX3_sortByGoing_L15, List.length_cons]
    simp (disch := omega) only [zlit, zz, if_pos, if_neg, if_true, if_false, zgd', zl, zbs, zbz, encz, fX3_sortByGoing_J61, Nat.add_sub_cancel, ha, m1, g1]
    by_cases q : mn g < mn x
    · have e : insR mn g (x :: xs) = x :: insR mn g xs := by rw [insR, if_pos q]
      rw [if_neg (by omega), e]
      obtain ⟨a', e1, e2⟩ := ih (x :: d) (upd a (xs.length + 1) (nI x)) n (fun y hy => h1 y (List.mem_cons_of_mem _ hy)) (by rw [List.length_cons]; omega) (by omega) (by
        intro i y hy
        have hi := (List.getElem?_eq_some_iff.mp hy).1
        rw [List.length_reverse] at hi
        unfold upd
        rw [if_neg (by omega)]
        exact h4 i y (by rw [List.reverse_cons, List.getElem?_append_left (by simpa using hi)]; exact hy)) (by
        intro i y hy
        unfold upd
        cases i with
        | zero => simp at hy; simp [hy]
        | succ i =>
          rw [List.getElem?_cons_succ] at hy
          rw [if_neg (by omega)]
          have := h5 i y hy
          rw [List.length_cons] at this
          rw [← this]
          congr 1
          omega)
      refine ⟨a', e1, ?_⟩
      rw [List.reverse_cons, List.append_assoc]
      exact e2
    · have e : insR mn g (x :: xs) = g :: x :: xs := by rw [insR, if_neg q]
      rw [if_pos (by omega), e]
      refine ⟨_, rfl, ?_⟩
      rw [List.reverse_cons, List.append_assoc]
      have := arr_mid (g := g) h4 (d := d) (by simpa using h5)
      simpa using this
theorem sX3_sort_L2 {fuel N : Nat} {mn : Nat → Nat} {go : Nat → Int32} (hf : 100 < fuel) (hN : N ≤ 10) (hM : cM go mn N) :
    ∀ (m n i : Nat) (a : Nat → Int32), i + m = N → m < n → arr a (ordS mn (List.range i)) → ∃ a', fX3_sortByGoing_L2 fuel go (nI N) n (nI i) a = some a' ∧ arr a' (ordS mn (List.range N)) := by
  intro m
  induction m with
  | zero =>
    intro n i a h1 h2 h3
    obtain ⟨n, rfl⟩ : ∃ k, n = k + 1 := ⟨n - 1, by omega⟩
    rw [fX3_sortByGoing_L2]
    simp (disch := omega) only [zlit, zz, if_pos, if_neg, if_true, if_false, zgd', zl, zbs, zbz, encz]
    rw [show N = i by omega]
    exact ⟨_, rfl, h3⟩
  | succ m ih =>
    intro n i a h1 h2 h3
    obtain ⟨n, rfl⟩ : ∃ k, n = k + 1 := ⟨n - 1, by omega⟩
    rw [fX3_sortByGoing_L2]
    simp (disch := omega) only [zlit, zz, if_pos, if_neg, if_true, if_false, zgd', zl, zbs, zbz, encz]
    have hl : (ordR mn (List.range i)).length = i := by rw [(ordR_perm mn _).length_eq, List.length_range]
    have := sX3_sort_L15 hN hM (show i < N by omega) (fX3_sortByGoing_L2 fuel go (nI N) n) (ordR mn (List.range i)) [] a fuel (fun x hx => by
      have := (ordR_perm mn _).mem_iff.mp hx
      have := List.mem_range.mp this
      omega) (by rw [hl]; simp; omega) (by omega) h3 (fun i x hx => by simp at hx)
    rw [hl] at this
    obtain ⟨a', e1, e2⟩ := this
    rw [e1]
    refine ih n (i + 1) a' (by omega) (by omega) ?_
    rw [List.append_nil] at e2
    rw [List.range_succ, ordS, ordR, List.foldl_append]
    exact e2
theorem sX3_sort {fuel N : Nat} {mn : Nat → Nat} {go : Nat → Int32} (hf : 100 < fuel) (hN : N ≤ 10) (hM : cM go mn N) (a : Nat → Int32) : ∃ a', fX3_sortByGoing fuel a go (nI N) = some a' ∧ arr a' (ordS mn (List.range N)) :=
  sX3_sort_L2 hf hN hM N fuel 0 a (by omega) (by omega) (by simp [ordS, ordR, arr])
