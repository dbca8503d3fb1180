/-! How many, one behind the other. -/
def stepS (mn : Nat → Nat) (g : Nat) : Nat → List Nat → Nat → Nat
  | _, [], acc => acc
  | j, v :: t, acc => stepS mn g (j + 1) t (if mn g ≤ mn j then max acc (v + 1) else acc)
def chL (mn : Nat → Nat) : Nat → Nat → List Nat
  | 0, _ => []
  | m + 1, i => stepS mn i (i + 1) (chL mn m (i + 1)) 1 :: chL mn m (i + 1)
theorem chL_len (mn : Nat → Nat) : ∀ m i, (chL mn m i).length = m
  | 0, _ => rfl
  | m + 1, i => by rw [chL, List.length_cons, chL_len mn m (i + 1)]
theorem stepS_le {mn : Nat → Nat} {g B : Nat} : ∀ (t : List Nat) (j acc : Nat), (∀ v ∈ t, v < B) → acc ≤ B → stepS mn g j t acc ≤ B
  | [], _, _, _, h => h
  | v :: t, j, acc, h1, h2 => by
    rw [stepS]
    have hv := h1 v List.mem_cons_self
    refine stepS_le t (j + 1) _ (fun x hx => h1 x (List.mem_cons_of_mem _ hx)) ?_
    split
    · exact Nat.max_le.mpr ⟨h2, hv⟩
    · exact h2
theorem chL_le (mn : Nat → Nat) : ∀ (m i : Nat), ∀ v ∈ chL mn m i, v ≤ m
  | 0, _, v, h => by simp [chL] at h
  | m + 1, i, v, h => by
    rw [chL] at h
    rcases List.mem_cons.mp h with h | h
    · rw [h]
      exact stepS_le _ _ _ (fun x hx => by have := chL_le mn m (i + 1) x hx; omega) (by omega)
    · have := chL_le mn m (i + 1) v h
      omega
