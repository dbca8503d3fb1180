/-! Where all lie when all have come; the class: all go, the heaps turned over ahead of a place. -/
/-- what holds between two who come; p: those who came -/
def LI (hp : Nat) (p : List Nat) (S : LayS) : Prop :=
  (∀ h x, x ∈ S.1 h ↔ h < hp ∧ x ∈ p ∧ S.2.2 x = h) ∧ (∀ x, x ∉ p → S.2.2 x = 10) ∧ (∀ x, S.2.2 x < hp ∨ S.2.2 x = 9 ∨ S.2.2 x = 10) ∧ (flat S.1).Nodup ∧ (flat S.1).length ≤ p.length
theorem whS_or {hp ho : Nat} {L : List Nat} {hang : Nat → Bool} {mn : Nat → Nat} {H : HP} {lat : Option Nat} {g : Nat} (h0 : 0 < hp) : whS hp ho L hang mn H lat g < hp ∨ whS hp ho L hang mn H lat g = 9 ∨ whS hp ho L hang mn H lat g = 10 := by
  unfold whS
  split
  · exact Or.inr (Or.inl rfl)
  · cases q : forS hp ho (lnS H) (tmS mn H) lat (mn g) L with
    | none => exact Or.inr (Or.inr rfl)
    | some h => exact Or.inl (forS_lt h0 L h q)
/-- a coat is laid on top -/
theorem push_perm {H : HP} {c g : Nat} (h3 : c < 3) : (flat (va_up H c (H c ++ [g]))).Perm (g :: flat H) := by
  rw [List.perm_iff_count]
  intro x
  rw [List.count_cons, count_flat, count_flat]
  rcases (show c = 0 ∨ c = 1 ∨ c = 2 by omega) with rfl | rfl | rfl
  all_goals
    simp [va_up, List.count_append, List.count_cons]
    omega
theorem LI_put {hp : Nat} {p : List Nat} {S : LayS} {g c : Nat} {lat : Option Nat} (hhp : hp ≤ 3) (hc : c < hp ∨ c = 9 ∨ c = 10) (hg : g ∉ p) (hI : LI hp p S) : LI hp (p ++ [g]) (if c < 3 then va_up S.1 c (S.1 c ++ [g]) else S.1, lat, va_up S.2.2 g c) := by
  obtain ⟨i1, i2, i3, i4, i5⟩ := hI
  have hgf : g ∉ flat S.1 := fun q => by
    obtain ⟨h, _, hx⟩ := mem_flat.mp q
    exact hg ((i1 h g).mp hx).2.1
  have key : ∀ x, x ≠ g → va_up S.2.2 g c x = S.2.2 x := fun x hx => by simp [va_up, hx]
  have hx10 : ∀ x, x ∉ p ++ [g] → va_up S.2.2 g c x = 10 := fun x hx => by
    rw [key x (fun q => hx (by simp [q]))]
    exact i2 x (fun q => hx (by simp [q]))
  have hor : ∀ x, va_up S.2.2 g c x < hp ∨ va_up S.2.2 g c x = 9 ∨ va_up S.2.2 g c x = 10 := fun x => by
    by_cases q : x = g
    · rw [q]; simpa [va_up] using hc
    · rw [key x q]; exact i3 x
  by_cases h3 : c < 3
  · have hchp : c < hp := by omega
    simp only [h3, if_true]
    have hp1 := push_perm (H := S.1) (g := g) h3
    refine ⟨fun h x => ?_, hx10, hor, ?_, ?_⟩
    · show x ∈ va_up S.1 c (S.1 c ++ [g]) h ↔ h < hp ∧ x ∈ p ++ [g] ∧ va_up S.2.2 g c x = h
      by_cases qx : x = g
      · subst qx
        have hn : ∀ k, x ∉ S.1 k := fun k q => hg ((i1 k x).mp q).2.1
        by_cases qh : h = c
        · subst qh; simp [va_up, hchp]
        · simp [va_up, qh, hn h, Ne.symm qh]
      · rw [key x qx, List.mem_append]
        by_cases qh : h = c
        · subst qh
          simp only [va_up, if_true, List.mem_append, List.mem_singleton, qx, or_false]
          exact i1 h x
        · simp only [va_up, qh, if_false, List.mem_singleton, qx, or_false]
          exact i1 h x
    · exact hp1.nodup_iff.mpr (List.nodup_cons.mpr ⟨hgf, i4⟩)
    · have := hp1.length_eq
      rw [List.length_cons] at this
      rw [List.length_append, List.length_singleton]
      show (flat (va_up S.1 c (S.1 c ++ [g]))).length ≤ _
      omega
  · simp only [h3, if_false]
    refine ⟨fun h x => ?_, hx10, hor, i4, by rw [List.length_append]; show (flat S.1).length ≤ _; omega⟩
    show x ∈ S.1 h ↔ h < hp ∧ x ∈ p ++ [g] ∧ va_up S.2.2 g c x = h
    by_cases qx : x = g
    · subst qx
      have hn : ∀ k, x ∉ S.1 k := fun k q => hg ((i1 k x).mp q).2.1
      simp only [hn h, false_iff, va_up, if_true]
      omega
    · rw [key x qx, List.mem_append, List.mem_singleton]
      simp only [qx, or_false]
      exact i1 h x
theorem LI_fold {hp ho : Nat} {L : List Nat} {hang : Nat → Bool} {mn : Nat → Nat} (hhp : hp ≤ 3) (h0 : 0 < hp) : ∀ (cs p : List Nat) (S : LayS), LI hp p S → (p ++ cs).Nodup → LI hp (p ++ cs) (cs.foldl (layOneS hp ho L hang mn) S) := by
  intro cs
  induction cs with
  | nil => intro p S h _; simpa using h
  | cons g cs ih =>
    intro p S h hnd
    rw [List.foldl_cons]
    have e : p ++ g :: cs = (p ++ [g]) ++ cs := by simp
    rw [e] at hnd ⊢
    refine ih _ _ ?_ hnd
    have hg : g ∉ p := by
      rw [List.append_assoc, List.nodup_append] at hnd
      intro q
      exact hnd.2.2 g q g (by simp) rfl
    exact LI_put hhp (whS_or h0) hg h
theorem LI_nil (hp : Nat) : LI hp [] (fun _ => [], none, fun _ => 10) := ⟨fun h x => by simp, fun x _ => rfl, fun x => Or.inr (Or.inr rfl), by simp [flat], by simp [flat]⟩
theorem LI_lay {hp ho : Nat} {L : List Nat} {hang : Nat → Bool} {mn : Nat → Nat} {cs : List Nat} (hhp : hp ≤ 3) (h0 : 0 < hp) (hnd : cs.Nodup) : LI hp cs (layS hp ho L hang mn cs) := by
  have := LI_fold (ho := ho) (L := L) (hang := hang) (mn := mn) hhp h0 cs [] _ (LI_nil hp) (by simpa using hnd)
  simpa [layS] using this
/-- nobody has gone -/
def go0 (H : HP) : GoS := (H, fun _ => none, fun _ => 0, fun _ => 0, fun _ => 0, fun _ => 0, 0, 0)
theorem LI_GI {N hp : Nat} {mist : Bool} {bl : Nat → Bool} {cs rem : List Nat} {S : LayS} (hhp : hp ≤ 3) (hcs : cs.length ≤ 10) (hN : ∀ x ∈ cs, x < N) (hI : LI hp cs S) (hr : rem.length ≤ 10) (hrc : ∀ x ∈ rem, x ∈ cs) : GI N hp mist bl S.2.2 rem (go0 S.1) := by
  obtain ⟨i1, i2, i3, i4, i5⟩ := hI
  have hout : ∀ h, hp ≤ h → S.1 h = [] := fun h hh => by
    cases q : S.1 h with
    | nil => rfl
    | cons a l =>
      have := (i1 h a).mp (by rw [q]; exact List.mem_cons_self)
      omega
  refine ⟨fun h => ⟨?_, fun x hx => hN x ((i1 h x).mp hx).2.1⟩, i4, by show (flat S.1).length ≤ 10; omega, hout, fun h x hx => ?_, fun x hx hw => Or.inl ?_, fun x _ => ⟨rfl, rfl⟩, by show 0 + 60 * rem.length ≤ 1000; omega, by show 0 + 60 * rem.length ≤ 3000; omega⟩
  · show (S.1 h).length ≤ 10
    by_cases q : h < 3
    · have := len_flat (H := S.1) h q
      omega
    · rw [hout h (by omega)]; simp
  · have := (i1 h x).mp hx
    omega
  · have := i3 x
    exact mem_flat.mpr ⟨S.2.2 x, by omega, (i1 _ x).mpr ⟨by omega, hrc x hx, rfl⟩⟩
theorem LI_Sp {N hp : Nat} {cs rem : List Nat} {S : LayS} {sps : Nat → Int32} (hhp : hp ≤ 3) (hI : LI hp cs S) (hs : ∀ x ∈ cs, sps x = encW (S.2.2 x)) (hrc : ∀ x ∈ rem, x ∈ cs) : cSp N S.2.2 rem S.1 sps := by
  obtain ⟨i1, i2, i3, i4, i5⟩ := hI
  intro x hx
  refine ⟨fun hr _ => hs x (hrc x hr), fun h3 => ⟨fun h hh hm => ?_, fun hnf => ?_⟩⟩
  · obtain ⟨a, b, c⟩ := (i1 h x).mp hm
    rw [hs x b, c]
    unfold encW
    rw [if_neg (by omega)]
  · have hxc : x ∈ cs := by
      by_cases q : x ∈ cs
      · exact q
      · have := i2 x q; omega
    have := i3 x
    exact absurd (mem_flat.mpr ⟨S.2.2 x, h3, (i1 _ x).mpr ⟨by omega, hxc, rfl⟩⟩) hnf
theorem LI_wh {N hp : Nat} {cs : List Nat} {S : LayS} (hhp : hp ≤ 3) (hI : LI hp cs S) : whOk N S.2.2 := fun x _ => by
  have := hI.2.2.1 x
  omega
/-- all heaps are turned over -/
def turnS (wt : Nat → Nat) (s : GoS) : GoS := (fun h => (s.1 h).reverse, s.2.1, s.2.2.1, s.2.2.2.1, s.2.2.2.2.1, s.2.2.2.2.2.1, s.2.2.2.2.2.2.1 + sumW wt (flat s.1), s.2.2.2.2.2.2.2)
theorem sumW_perm {wt : Nat → Nat} {a b : List Nat} (h : a.Perm b) : sumW wt a = sumW wt b := by
  unfold sumW
  exact (h.map wt).sum_nat
theorem turn_perm (H : HP) : (flat fun h => (H h).reverse).Perm (flat H) := by
  rw [List.perm_iff_count]
  intro x
  rw [count_flat, count_flat, List.count_reverse, List.count_reverse, List.count_reverse]
theorem GI_turn {N hp : Nat} {mist : Bool} {bl : Nat → Bool} {wt wh : Nat → Nat} {rem : List Nat} {s : GoS} (hwt : ∀ x, x < N → wt x ≤ 5) (h9 : s.2.2.2.2.2.2.1 + 60 * rem.length ≤ 900) (hI : GI N hp mist bl wh rem s) : GI N hp mist bl wh rem (turnS wt s) := by
  obtain ⟨i1, i2, i3, i4, i5, i6, i7, i8, i9⟩ := hI
  have hp1 := turn_perm s.1
  refine ⟨fun h => ⟨by show ((s.1 h).reverse).length ≤ 10; rw [List.length_reverse]; exact (i1 h).1, fun x hx => (i1 h).2 x (List.mem_reverse.mp hx)⟩, hp1.nodup_iff.mpr i2, by have := hp1.length_eq; show (flat fun h => (s.1 h).reverse).length ≤ 10; omega, fun h hh => by show (s.1 h).reverse = []; rw [i4 h hh]; rfl, fun h x hx => i5 h x (List.mem_reverse.mp hx), fun x hx hw => ?_, i7, ?_, i9⟩
  · rcases i6 x hx hw with q | q
    · exact Or.inl (hp1.mem_iff.mpr q)
    · exact Or.inr q
  · show s.2.2.2.2.2.2.1 + sumW wt (flat s.1) + 60 * rem.length ≤ 1000
    have := sumW_le (wt := wt) (l := flat s.1) (fun x hx => by
      obtain ⟨h, _, hm⟩ := mem_flat.mp hx
      exact hwt x ((i1 h).2 x hm))
    omega
theorem goOne_all {N hp ba : Nat} {mist : Bool} {bl : Nat → Bool} {wt mn wh : Nat → Nat} {g : Nat} {rem : List Nat} {s : GoS} (hwt : ∀ x, x < N → wt x ≤ 5) (hI : GI N hp mist bl wh rem s) : (goOneS hp ba mist bl wt mn wh s g).2.2.2.2.2.2.1 ≤ s.2.2.2.2.2.2.1 + 60 := by
  obtain ⟨i1, i2, i3, i4, i5, i6, i7, i8, i9⟩ := hI
  unfold goOneS
  split
  · show s.2.2.2.2.2.2.1 ≤ _; omega
  · split
    · show s.2.2.2.2.2.2.1 ≤ _; omega
    · rename_i h i q
      show s.2.2.2.2.2.2.1 + sumW wt ((s.1 h).drop (i + 1)) ≤ _
      have h1 := sumW_le (wt := wt) (l := (s.1 h).drop (i + 1)) (fun x hx => hwt x ((i1 h).2 x (List.mem_of_mem_drop hx)))
      have h2 := (i1 h).1
      rw [List.length_drop] at h1
      omega
/-- they go one behind the other, from a place on; all is turned over ahead of a place -/
def goTR (hp ba : Nat) (mist : Bool) (bl : Nat → Bool) (wt mn wh : Nat → Nat) (tp : Option Nat) : Nat → GoS → List Nat → GoS
  | _, s, [] => s
  | i, s, g :: l => goTR hp ba mist bl wt mn wh tp (i + 1) (goOneS hp ba mist bl wt mn wh (if tp = some i then turnS wt s else s) g) l
theorem sX3_turnAll_L24 {N h : Nat} {wt : Nat → Nat} {w : Nat → Int32} {l : List Nat} {pi : Nat → Nat → Int32} {hts : Nat → Int32} (hN : N ≤ 10) (hw : cM w wt N) (h3 : h < 3) (hl : l.length ≤ 10) (hlN : ∀ x ∈ l, x < N) (hpi : arr (pi h) l) (hhl : hts h = nI l.length) (k2 : Int32 → Int32 → (Nat → Nat → Int32) → Option (Int32 × (Nat → Nat → Int32))) :
    ∀ (m n i all : Nat), i + m = l.length → m < n → fX3_turnAll_L24 w hts k2 n (nI h) (nI i) (nI all) pi = k2 (nI (h + 1)) (nI (all + sumW wt (l.drop i))) pi := by
  intro m
  induction m with
  | zero =>
    intro n i all h1 h2
    obtain ⟨n, rfl⟩ : ∃ k, n = k + 1 := ⟨n - 1, by omega⟩
    rw [fX3_turnAll_L24, List.drop_eq_nil_of_le (by omega)]
    simp (disch := omega) only [zlit, zz, if_pos, if_neg, if_true, if_false, zgd', zl, zbs, zbz, encz, hhl, fX3_turnAll_J68]
    simp [sumW]
  | succ m ih =>
    intro n i all h1 h2
    obtain ⟨n, rfl⟩ : ∃ k, n = k + 1 := ⟨n - 1, by omega⟩
    have hi : i < l.length := by omega
    have hc := hpi i l[i] (List.getElem?_eq_getElem hi)
    have hcN := hlN l[i] (List.getElem_mem hi)
    rw [fX3_turnAll_L24, List.drop_eq_getElem_cons hi]
    generalize l[i] = c at hc hcN ⊢
    have hwc := (hw c hcN).1
    simp (disch := omega) only [zlit, zz, if_pos, if_neg, if_true, if_false, zgd', zl, zbs, zbz, encz, hhl, hc, hwc]
    rw [ih n (i + 1) _ (by omega) (by omega)]
    congr 2
    simp [sumW]
    omega
theorem sX3_turnAll_L2 {fuel N hp : Nat} {wt : Nat → Nat} {w : Nat → Int32} {hts : Nat → Int32} (hf : 100 < fuel) (hhp : hp ≤ 3) (hN : N ≤ 10) (hw : cM w wt N) :
    ∀ (m n i all : Nat) (H : HP) (pi : Nat → Nat → Int32), i + m = hp → m < n → okH N H → cB H pi hts →
      ∃ o, fX3_turnAll_L2 fuel w (nI hp) hts n (nI i) (nI all) pi = some o ∧ o.1 = nI (all + ((List.range' i m).map fun h => sumW wt (H h)).sum) ∧ cB (fun h => if i ≤ h ∧ h < hp then (H h).reverse else H h) o.2 hts := by
  intro m
  induction m with
  | zero =>
    intro n i all H pi h1 h2 hk hB
    obtain ⟨n, rfl⟩ : ∃ k, n = k + 1 := ⟨n - 1, by omega⟩
    rw [fX3_turnAll_L2]
    simp (disch := omega) only [zlit, zz, if_pos, if_neg, if_true, if_false, zgd', zl, zbs, zbz, encz]
    exact ⟨_, rfl, by simp, hB⟩
  | succ m ih =>
    intro n i all H pi h1 h2 hk hB
    obtain ⟨n, rfl⟩ : ∃ k, n = k + 1 := ⟨n - 1, by omega⟩
    rw [fX3_turnAll_L2]
    obtain ⟨pi', e1, e2⟩ := sX0_turnFrom (base := []) (above := H i) hf (show i < 3 by omega) hB rfl (hk i).1
    rw [List.nil_append, List.length_nil] at *
    have hl : ((H i).reverse).length ≤ 10 := by rw [List.length_reverse]; exact (hk i).1
    have hB2 := e2 i (by omega)
    simp only [va_up, if_true] at hB2
    simp (disch := omega) only [zlit, zz, if_pos, if_neg, if_true, if_false, zgd', zl, zbs, zbz, encz, e1]
    rw [sX3_turnAll_L24 hN hw (show i < 3 by omega) hl (fun x hx => (hk i).2 x (List.mem_reverse.mp hx)) hB2.2 hB2.1 _ (H i).reverse.length fuel 0 all (by omega) (by omega), List.drop_zero, sumW_perm (List.reverse_perm _)]
    have hk2 : okH N (va_up H i (H i).reverse) := by
      intro h
      unfold va_up
      split
      · rename_i q
        rw [List.length_reverse]
        exact ⟨(hk i).1, fun x hx => (hk i).2 x (List.mem_reverse.mp hx)⟩
      · exact hk h
    obtain ⟨o, o1, o2, o3⟩ := ih n (i + 1) (all + sumW wt (H i)) _ pi' (by omega) (by omega) hk2 e2
    refine ⟨o, o1, ?_, ?_⟩
    · rw [o2, List.range'_succ, List.map_cons, List.sum_cons, ← Nat.add_assoc]
      congr 3
      refine List.map_congr_left fun h hh => ?_
      have := List.mem_range'_1.mp hh
      rw [va_up, if_neg (by omega)]
    · have : (fun h => if i ≤ h ∧ h < hp then (H h).reverse else H h) = fun h => if i + 1 ≤ h ∧ h < hp then (va_up H i (H i).reverse h).reverse else va_up H i (H i).reverse h := by
        funext h
        unfold va_up
        by_cases q : h = i
        · subst q
          rw [if_pos (by omega), if_neg (by omega), if_pos rfl]
        · rw [if_neg q]
          by_cases q2 : i ≤ h ∧ h < hp
          · rw [if_pos q2, if_pos (by omega)]
          · rw [if_neg q2, if_neg (by omega)]
      rw [this]
      exact o3
theorem sumW_flat {wt : Nat → Nat} {H : HP} {hp : Nat} (hhp : hp ≤ 3) (h : ∀ h, hp ≤ h → H h = []) : ((List.range' 0 hp).map fun h => sumW wt (H h)).sum = sumW wt (flat H) := by
  unfold flat
  rw [sumW_append, sumW_append]
  rcases (show hp = 0 ∨ hp = 1 ∨ hp = 2 ∨ hp = 3 by omega) with rfl | rfl | rfl | rfl
  · rw [h 0 (by omega), h 1 (by omega), h 2 (by omega)]; simp [sumW]
  · rw [h 1 (by omega), h 2 (by omega)]; simp [sumW, List.range'_succ]
  · rw [h 2 (by omega)]; simp [sumW, List.range'_succ]
  · simp [List.range'_succ]
theorem sX3_turnAll {fuel N hp all : Nat} {wt : Nat → Nat} {w : Nat → Int32} {H : HP} {pi : Nat → Nat → Int32} {hts : Nat → Int32} (hf : 100 < fuel) (hhp : hp ≤ 3) (hN : N ≤ 10) (hw : cM w wt N) (hk : okH N H) (hB : cB H pi hts) (hout : ∀ h, hp ≤ h → H h = []) :
    ∃ o, fX3_turnAll fuel w (nI all) (nI hp) pi hts = some o ∧ o.1 = nI (all + sumW wt (flat H)) ∧ cB (fun h => (H h).reverse) o.2 hts := by
  obtain ⟨o, o1, o2, o3⟩ := sX3_turnAll_L2 hf hhp hN hw hp fuel 0 all H pi (by omega) (by omega) hk hB
  refine ⟨o, o1, ?_, ?_⟩
  · rw [o2, sumW_flat hhp hout]
  · have : (fun h => (H h).reverse) = fun h => if 0 ≤ h ∧ h < hp then (H h).reverse else H h := by
      funext h
      split
      · rfl
      · rw [hout h (by omega)]; rfl
    rw [this]
    exact o3
theorem cSp_turn {N : Nat} {wh wt : Nat → Nat} {rem : List Nat} {s : GoS} {sps : Nat → Int32} (h : cSp N wh rem s.1 sps) : cSp N wh rem (turnS wt s).1 sps := by
  intro x hx
  obtain ⟨a, b⟩ := h x hx
  refine ⟨a, fun h3 => ⟨fun k hk hm => (b h3).1 k hk (List.mem_reverse.mp hm), fun hn => (b h3).2 (fun q => hn ((turn_perm s.1).mem_iff.mpr q))⟩⟩
