/-! The class and the model: the lengths, from the last guest on. -/
theorem sX8_chain_L30 {N g : Nat} {mn : Nat → Nat} {no nw nb go co : Nat → Int32} (hN : N ≤ 10) (hM : cM go mn N) (hg : g < N) (k15 : Int32 → (Nat → Int32) → (Nat → Int32) → (Nat → Int32) → (Nat → Int32) → (Nat → Int32) → (Nat → Int32) → Option ((Nat → Int32) × (Nat → Int32) × (Nat → Int32) × (Nat → Int32) × (Nat → Int32) × (Nat → Int32))) :
    ∀ (t : List Nat) (w j acc : Nat) (row : Nat → Int32), j + t.length = N → t.length < w → g < j → arrAt row j t → row g = nI acc → acc ≤ 100 → (∀ v ∈ t, v < 100) → ∃ r2, fX8_chainLengths_L30 (nI N) k15 w (nI g) (nI j) row no nw nb go co = k15 (ixm g) r2 no nw nb go co ∧ r2 g = nI (stepS mn g j t acc) ∧ ∀ x, x ≠ g → r2 x = row x := by
  intro t
  induction t with
  | nil =>
    intro w j acc row h1 h2 hgj had hrow hacc ht
    obtain ⟨w, rfl⟩ : ∃ k, w = k + 1 := ⟨w - 1, by omega⟩
    rw [List.length_nil] at h1
    rw [fX8_chainLengths_L30]
    refine ⟨row, ?_, hrow, fun _ _ => rfl⟩
    simp (disch := omega) only [zlit, zz, if_pos, if_neg, if_true, if_false, zgd', zl, zbs, zbz, encz, fX8_chainLengths_J88, ixm_m1]
  | cons v t ih =>
    intro w j acc row h1 h2 hgj had hrow hacc ht
    obtain ⟨w, rfl⟩ : ∃ k, w = k + 1 := ⟨w - 1, by omega⟩
    rw [List.length_cons] at h1 h2
    have hj : row j = nI v := had 0 v rfl
    have hv := ht v List.mem_cons_self
    have mj := (hM j (by omega))
    have mg := (hM g hg)
    rw [fX8_chainLengths_L30, stepS]
    by_cases q : mn g ≤ mn j
    · have had' : arrAt (upd row g (nI (max acc (v + 1)))) (j + 1) t := fun i x hx => by
        have : ¬ j + 1 + i = g := by omega
        simp only [upd, this, if_false]
        have := had (i + 1) x (by simpa using hx)
        rw [show j + 1 + i = j + (i + 1) by omega]
        exact this
      obtain ⟨r2, e1, e2, e3⟩ := ih w (j + 1) (max acc (v + 1)) (upd row g (nI (max acc (v + 1)))) (by omega) (by omega) (by omega) had' (by simp [upd]) (by omega) (fun x hx => ht x (List.mem_cons_of_mem _ hx))
      refine ⟨r2, ?_, by rw [e2, if_pos q], fun x hx => by rw [e3 x hx]; simp [upd, hx]⟩
      rw [← e1]
      simp (disch := omega) only [zlit, zz, if_pos, if_neg, if_true, if_false, zgd', zl, zbs, zbz, encz, mj.1, mg.1, hrow, hj, nI_zmax, fX8_chainLengths_J82]
    · have had' : arrAt row (j + 1) t := fun i x hx => by
        have := had (i + 1) x (by simpa using hx)
        rw [show j + 1 + i = j + (i + 1) by omega]
        exact this
      obtain ⟨r2, e1, e2, e3⟩ := ih w (j + 1) acc row (by omega) (by omega) (by omega) had' hrow hacc (fun x hx => ht x (List.mem_cons_of_mem _ hx))
      refine ⟨r2, ?_, by rw [e2, if_neg q], e3⟩
      rw [← e1]
      simp (disch := omega) only [zlit, zz, if_pos, if_neg, if_true, if_false, zgd', zl, zbs, zbz, encz, mj.1, mg.1, fX8_chainLengths_J82]
theorem sX8_chain_L15 {fuel N : Nat} {mn : Nat → Nat} {no nw nb go co : Nat → Int32} (hf : 100 < fuel) (hN : N ≤ 10) (hM : cM go mn N) :
    ∀ (i w m : Nat) (row : Nat → Int32), i + m = N → i < w → arrAt row i (chL mn m i) → ∃ r2, fX8_chainLengths_L15 fuel (nI N) w (ixm i) row no nw nb go co = some (r2, no, nw, nb, go, co) ∧ arr r2 (chL mn N 0) := by
  intro i
  induction i with
  | zero =>
    intro w m row h1 h2 had
    obtain ⟨w, rfl⟩ : ∃ k, w = k + 1 := ⟨w - 1, by omega⟩
    rw [fX8_chainLengths_L15, ixm_0]
    refine ⟨row, ?_, fun j x hx => ?_⟩
    · simp (disch := omega) only [zlit, zz, if_pos, if_neg, if_true, if_false, zgd', zl, zbs, zbz, encz]
    · have e : m = N := by omega
      subst e
      have := had j x hx
      rwa [Nat.zero_add] at this
  | succ i ih =>
    intro w m row h1 h2 had
    obtain ⟨w, rfl⟩ : ∃ k, w = k + 1 := ⟨w - 1, by omega⟩
    rw [fX8_chainLengths_L15, ixm_s]
    have hlen := chL_len mn m (i + 1)
    obtain ⟨r2, e1, e2, e3⟩ := sX8_chain_L30 (no := no) (nw := nw) (nb := nb) (co := co) hN hM (show i < N by omega) (fX8_chainLengths_L15 fuel (nI N) w) (chL mn m (i + 1)) fuel (i + 1) 1 (upd row i (nI 1)) (by omega) (by omega) (by omega) (fun j x hx => by simp only [upd, show ¬ i + 1 + j = i by omega, if_false]; exact had j x hx) (by simp [upd]) (by omega) (fun v hv => by have := chL_le mn m (i + 1) v hv; omega)
    obtain ⟨r3, f1, f2⟩ := ih w (m + 1) r2 (by omega) (by omega) (fun j x hx => by
      rw [chL] at hx
      cases j with
      | zero => cases hx; exact e2
      | succ j =>
        have hx' : (chL mn m (i + 1))[j]? = some x := by simpa using hx
        rw [e3 _ (by omega)]
        simp only [upd, show ¬ i + (j + 1) = i by omega, if_false]
        rw [show i + (j + 1) = i + 1 + j by omega]
        exact had j x hx')
    refine ⟨r3, ?_, f2⟩
    rw [← f1, ← e1]
    simp (disch := omega) only [zlit, zz, if_pos, if_neg, if_true, if_false, zgd', zl, zbs, zbz, encz]
