/-! The model's lengths. -/
theorem sX10_chain_L28 {N g : Nat} {mn : Nat → Nat} {mr : Nat → Int32} (hN : N ≤ 10) (hM : cM mr mn N) (hg : g < N) (k13 : Int32 → Int32 → (Nat → Int32) → (Nat → Int32) → Option (Int32 × (Nat → Int32) × (Nat → Int32))) (v1 : Int32) :
    ∀ (t : List Nat) (w j acc : Nat) (row : Nat → Int32), j + t.length = N → t.length < w → g < j → arrAt row j t → row g = nI acc → acc ≤ 100 → (∀ v ∈ t, v < 100) → ∃ r2, fX10_chains_L28 (nI N) k13 w v1 (nI g) (nI j) mr row = fX10_chains_J89 k13 v1 (nI g) mr r2 ∧ r2 g = nI (stepS mn g j t acc) ∧ ∀ x, x ≠ g → r2 x = row x := by
  intro t
  induction t with
  | nil =>
    intro w j acc row h1 h2 hgj had hrow hacc ht
    obtain ⟨w, rfl⟩ : ∃ k, w = k + 1 := ⟨w - 1, by omega⟩
    rw [List.length_nil] at h1
    rw [fX10_chains_L28]
    refine ⟨row, ?_, hrow, fun _ _ => rfl⟩
    simp (disch := omega) only [zlit, zz, if_pos, if_neg, if_true, if_false, zgd', zl, zbs, zbz, encz]
  | cons v t ih =>
    intro w j acc row h1 h2 hgj had hrow hacc ht
    obtain ⟨w, rfl⟩ : ∃ k, w = k + 1 := ⟨w - 1, by omega⟩
    rw [List.length_cons] at h1 h2
    have hj : row j = nI v := had 0 v rfl
    have hv := ht v List.mem_cons_self
    have mj := (hM j (by omega))
    have mg := (hM g hg)
    rw [fX10_chains_L28, stepS]
    by_cases q : mn g ≤ mn j
    · have had' : arrAt (upd row g (nI (max acc (v + 1)))) (j + 1) t := fun i x hx => by
        have : ¬ j + 1 + i = g := by omega
        simp only [upd, this, if_false]
        have := had (i + 1) x (by simpa using hx)
        rw [show j + 1 + i = j + (i + 1) by omega]
        exact this
      obtain ⟨r2, e1, e2, e3⟩ := ih w (j + 1) (max acc (v + 1)) (upd row g (nI (max acc (v + 1)))) (by omega) (by omega) (by omega) had' (by simp [upd]) (by omega) (fun x hx => ht x (List.mem_cons_of_mem _ hx))
      refine ⟨r2, ?_, by rw [e2, if_pos q], fun x hx => by rw [e3 x hx]; simp [upd, hx]⟩
      rw [← e1]
      simp (disch := omega) only [zlit, zz, if_pos, if_neg, if_true, if_false, zgd', zl, zbs, zbz, encz, mj.1, mg.1, hrow, hj, nI_zmax]
    · have hself : upd row g (nI acc) = row := by
        funext x
        unfold upd
        split
        · rename_i e; rw [e, hrow]
        · rfl
      have had' : arrAt row (j + 1) t := fun i x hx => by
        have := had (i + 1) x (by simpa using hx)
        rw [show j + 1 + i = j + (i + 1) by omega]
        exact this
      obtain ⟨r2, e1, e2, e3⟩ := ih w (j + 1) acc row (by omega) (by omega) (by omega) had' hrow hacc (fun x hx => ht x (List.mem_cons_of_mem _ hx))
      refine ⟨r2, ?_, by rw [e2, if_neg q], e3⟩
      rw [← e1]
      simp (disch := omega) only [zlit, zz, if_pos, if_neg, if_true, if_false, zgd', zl, zbs, zbz, encz, mj.1, mg.1, hrow, hself]
