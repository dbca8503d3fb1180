/-! least: the loops. -/
def dgS (w : List Nat) : Nat := w.foldl (fun a x => 10 * a + x) 0
theorem sX4_digits_L4 {N : Nat} {row : Nat → Int32} (hN : N ≤ 10) : ∀ (w : List Nat) (n i acc : Nat), i + w.length = N → w.length < n → arrAt row i w → fX4_asDigits_L4 row (nI N) n (nI acc) (nI i) = some (nI (w.foldl (fun a x => 10 * a + x) acc)) := by
  intro w
  induction w with
  | nil =>
    intro n i acc h1 h2 h3
    obtain ⟨n, rfl⟩ : ∃ k, n = k + 1 := ⟨n - 1, by omega⟩
    rw [List.length_nil] at h1
    rw [fX4_asDigits_L4]
    simp (disch := omega) only [zlit, zz, if_pos, if_neg, if_true, if_false, zgd', zl, zbs, zbz, encz]
    rfl
  | cons x w ih =>
    intro n i acc h1 h2 h3
    obtain ⟨n, rfl⟩ : ∃ k, n = k + 1 := ⟨n - 1, by omega⟩
    rw [List.length_cons] at h1 h2
    have hx : row i = nI x := h3 0 x rfl
    rw [fX4_asDigits_L4]
    simp (disch := omega) only [zlit, zz, if_pos, if_neg, if_true, if_false, zgd', zl, zbs, zbz, encz, hx]
    exact ih n (i + 1) _ (by omega) (by omega) (fun j y hy => by
      have := h3 (j + 1) y (by simpa using hy)
      rw [show i + 1 + j = i + (j + 1) by omega]
      exact this)
theorem sX4_asDigits {fuel N : Nat} {row : Nat → Int32} {w : List Nat} (hf : 100 < fuel) (hN : N ≤ 10) (hl : w.length = N) (ha : arr row w) : fX4_asDigits fuel row (nI N) = some (nI (dgS w)) := by
  unfold fX4_asDigits
  exact sX4_digits_L4 hN w fuel 0 0 (by omega) (by omega) (fun i x hx => by rw [Nat.zero_add]; exact ha i x hx)
theorem dg_lt : ∀ (w : List Nat) (acc B : Nat), acc < B → (∀ x ∈ w, x < 10) → w.foldl (fun a x => 10 * a + x) acc < B * 10 ^ w.length
  | [], acc, B, h, _ => by simpa using h
  | x :: w, acc, B, h, hx => by
    have h1 := hx x List.mem_cons_self
    have := dg_lt w (10 * acc + x) (B * 10) (by omega) (fun y hy => hx y (List.mem_cons_of_mem _ hy))
    rw [List.foldl_cons, List.length_cons, Nat.pow_succ]
    have e : B * 10 * 10 ^ w.length = B * (10 ^ w.length * 10) := by rw [Nat.mul_assoc, Nat.mul_comm 10]
    rw [e] at this
    exact this
theorem dgS_lt {w : List Nat} (hl : w.length ≤ 6) (hx : ∀ x ∈ w, x < 10) : dgS w < 1000000 := by
  have := dg_lt w 0 1 (by omega) hx
  have h2 : 10 ^ w.length ≤ 10 ^ 6 := Nat.pow_le_pow_right (by decide) hl
  unfold dgS
  omega
/-- the lifts of a laying, if it can be -/
def vlS (r : SR) (w : List Nat) : Option Nat := if fitB (rHo r) (asS w).1 = true then some (sAll (goR r (asS w) none (odR r))) else none
def upS (b : Option (Nat × Nat)) (d : Nat) (v : Option Nat) : Option (Nat × Nat) := match v with
  | none => b
  | some L => match b with
    | none => some (d, L)
    | some q => if L < q.2 then some (d, L) else some q
def nxW (hp : Nat) (w : List Nat) : List Nat := (nxR hp w.reverse).2.reverse
def lsS (r : SR) : Nat → List Nat → Option (Nat × Nat) → Option (Nat × Nat)
  | 0, _, b => b
  | m + 1, w, b => lsS r m (nxW (rHp r) w) (upS b (dgS w) (vlS r w))
theorem lsS_zero {r : SR} {d : Nat} : ∀ (m : Nat) (w : List Nat), lsS r m w (some (d, 0)) = some (d, 0)
  | 0, _ => rfl
  | m + 1, w => by
    rw [lsS]
    have : upS (some (d, 0)) (dgS w) (vlS r w) = some (d, 0) := by
      unfold upS
      cases vlS r w with
      | none => rfl
      | some L => simp
    rw [this]
    exact lsS_zero m _
def encD (b : Option (Nat × Nat)) : Int32 := match b with | none => zNo | some q => nI q.1
def encQ (b : Option (Nat × Nat)) : Int32 := match b with | none => zNo | some q => nI q.2
def okB (b : Option (Nat × Nat)) : Prop := ∀ q, b = some q → q.1 < 1000000 ∧ q.2 ≤ 1000
theorem okB_up {b : Option (Nat × Nat)} {d : Nat} {v : Option Nat} (h : okB b) (hd : d < 1000000) (hv : ∀ L, v = some L → L ≤ 1000) : okB (upS b d v) := by
  unfold upS
  cases v with
  | none => exact h
  | some L =>
    cases b with
    | none => intro q hq; cases hq; exact ⟨hd, hv L rfl⟩
    | some q =>
      show okB (if L < q.2 then some (d, L) else some q)
      split
      · intro q' hq; cases hq; exact ⟨hd, hv L rfl⟩
      · exact h
theorem okO_asS {r : SR} (hr : okR r) {w : List Nat} (hw : dgOk (rHp r) w) (hl : w.length = rN r) : LI (rHp r) (List.range (rN r)) (asS w) := asS_LI hr.2.2.2.1 hw hl
theorem vlS_le {r : SR} (hr : okR r) {w : List Nat} (hw : dgOk (rHp r) w) (hl : w.length = rN r) : sAll (goR r (asS w) none (odR r)) ≤ 1000 := by
  have := (HI_goR (tp := none) (od := odR r) (rest := []) hr (okC_range hr) (by rw [List.append_nil]; exact odR_perm r) (okO_asS hr hw hl)).2.2.2.2.2.2.2.2.1
  unfold sAll
  omega
theorem sX8_find {fuel d L : Nat} {b : Option (Nat × Nat)} (hb : okB b) (hL : L ≤ 1000) : fX8_findIfFewer fuel (encD b) (encQ b) (nI d) (nI L) = some (encD (upS b d (some L)), encQ (upS b d (some L))) := by
  cases b with
  | none => rfl
  | some q =>
    have := hb q rfl
    have h := sX8_findFewer (fuel := fuel) (x := d) (t := L) (L := q.2) (f := nI q.1) (by omega) (by omega)
    show fX8_findIfFewer fuel (nI q.1) (nI q.2) (nI d) (nI L) = _
    rw [h]
    unfold upS
    show _ = some (encD (if L < q.2 then some (d, L) else some q), encQ (if L < q.2 then some (d, L) else some q))
    split <;> rfl
theorem sX8_laying_L13 {ho : Nat} {H : HP} (fuel : Nat) (q_row : Nat → Int32) (n_order : Nat → Int32) (n_weights : Nat → Int32) (n_black : Nat → Int32) (y_going : Nat → Int32) (r_guests : Int32) (r_settings : Nat → Int32) (hs : r_settings 1 = nI ho) (hho : ho < 100) :
    ∀ (m n h : Nat) (q_found : Int32) (q_foundLifts : Int32) (n_lifts : Nat → Int32) (n_begins : Nat → Int32) (n_ends : Nat → Int32) (n_has : Nat → Int32) (n_lifted : Nat → Int32) (n_allLifts : Int32) (n_doneAt : Int32) (b_heaps : Int32) (b_piles : Nat → Nat → Int32) (b_heights : Nat → Int32) (b_spots : Nat → Int32), h + m = 3 → m < n → cB H b_piles b_heights → (∀ k, (H k).length ≤ 10) → (∀ k, k < h → (H k).length ≤ ho) →
      fX8_tryLaying_L13 fuel q_row n_order n_weights n_black y_going r_guests r_settings n (nI h) q_found q_foundLifts n_lifts n_begins n_ends n_has n_lifted n_allLifts n_doneAt b_heaps b_piles b_heights b_spots = if fitB ho H = true then fX8_tryLaying_J46 fuel q_row n_order n_weights n_black y_going r_guests r_settings q_found q_foundLifts n_lifts n_begins n_ends n_has n_lifted n_allLifts n_doneAt b_heaps b_piles b_heights b_spots else some (q_found, q_foundLifts, n_lifts, n_begins, n_ends, n_has, n_lifted, n_allLifts, n_doneAt, b_heaps, b_piles, b_heights, b_spots) := by
  intro m
  induction m with
  | zero =>
    intro n h q_found q_foundLifts n_lifts n_begins n_ends n_has n_lifted n_allLifts n_doneAt b_heaps b_piles b_heights b_spots h1 h2 hB hl hk
    obtain ⟨n, rfl⟩ : ∃ k, n = k + 1 := ⟨n - 1, by omega⟩
    have hfit : fitB ho H = true := fitB_iff.mpr (fun k hk3 => hk k (by omega))
    rw [fX8_tryLaying_L13, show (3 : Int32) = nI 3 from rfl, if_pos ((nI_leI (by decide) (by omega)).mpr (by omega)), if_pos hfit]
  | succ m ih =>
    intro n h q_found q_foundLifts n_lifts n_begins n_ends n_has n_lifted n_allLifts n_doneAt b_heaps b_piles b_heights b_spots h1 h2 hB hl hk
    obtain ⟨n, rfl⟩ : ∃ k, n = k + 1 := ⟨n - 1, by omega⟩
    have hh := (hB h (by omega)).1
    have hl2 := hl h
    rw [fX8_tryLaying_L13, if_neg (fun q => by have := (nI_leI (a := 3) (by decide) (by omega)).mp q; omega), zin_nI (by omega), zgd' (by omega), nI_clamp (by omega), hh, hs]
    by_cases q : (H h).length ≤ ho
    · rw [if_pos ((nI_leI (by omega) (by omega)).mpr q), zl, show (1 : Int32) = nI 1 from rfl, nI_add]
      exact ih n (h + 1) q_found q_foundLifts n_lifts n_begins n_ends n_has n_lifted n_allLifts n_doneAt b_heaps b_piles b_heights b_spots (by omega) (by omega) hB hl (fun k hk2 => by
        by_cases e : k = h
        · rw [e]; exact q
        · exact hk k (by omega))
    · rw [if_neg (fun e => q ((nI_leI (by omega) (by omega)).mp e)), if_neg (fun e => q (fitB_iff.mp e h (by omega)))]
theorem sX8_tryLaying {r : SR} {w : List Nat} {b : Option (Nat × Nat)} (fuel : Nat) (q_row : Nat → Int32) (q_found : Int32) (q_foundLifts : Int32) (n_order : Nat → Int32) (n_weights : Nat → Int32) (n_black : Nat → Int32) (n_lifts : Nat → Int32) (n_begins : Nat → Int32) (n_ends : Nat → Int32) (n_has : Nat → Int32) (n_lifted : Nat → Int32) (n_allLifts : Int32) (n_doneAt : Int32) (y_going : Nat → Int32) (b_heaps : Int32) (b_piles : Nat → Nat → Int32) (b_heights : Nat → Int32) (b_spots : Nat → Int32) (r_guests : Int32) (r_settings : Nat → Int32) {r_kinds r_figures r_minutes r_letters : Nat → Int32} {r_hooks r_letterCount : Int32} (hf : 100 < fuel) (hr : okR r) (hc : cR r r_guests r_kinds r_figures r_minutes r_settings r_hooks r_letters r_letterCount) (hN6 : rN r ≤ 6) (hw : dgOk (rHp r) w) (hl : w.length = rN r) (ha : arr q_row w) (hb : okB b) (h1 : q_found = encD b) (h2 : q_foundLifts = encQ b) (hbg : bgR r n_weights n_black y_going) (had : arr n_order (odR r)) :
    ∃ o, fX8_tryLaying fuel q_row q_found q_foundLifts n_order n_weights n_black n_lifts n_begins n_ends n_has n_lifted n_allLifts n_doneAt y_going b_heaps b_piles b_heights b_spots r_guests r_settings = some o ∧ o.1 = encD (upS b (dgS w) (vlS r w)) ∧ o.2.1 = encQ (upS b (dgS w) (vlS r w)) := by
  have hN := hr.1
  subst h1 h2
  unfold fX8_tryLaying fX3_layAs
  have hcl := sX0_clear (fuel := fuel) hf hr.2.2.1 hr.2.2.2.1 b_heaps b_heights b_spots
  rw [← hc.2.2.1] at hcl
  rw [hcl, zbs]
  have hI := okO_asS hr hw hl
  obtain ⟨o, o1, o2, o3, o4⟩ := sX3_layAs_L18 (fuel := fuel) (row := q_row) hN hr.2.2.2.1 w fuel 0 (fun _ => [], none, fun _ => 10) (r_settings 0) b_piles (fun j => if 0 ≤ j ∧ j < 3 then nI 0 else b_heights j) (fun j => if 0 ≤ j ∧ j < 10 then zAw else b_spots j) (by omega) (by omega) (fun i x hx => by rw [Nat.zero_add]; exact ha i x hx) hw (fun k hk => ⟨by show (if 0 ≤ k ∧ k < 3 then nI 0 else b_heights k) = _; rw [if_pos ⟨Nat.zero_le _, hk⟩]; rfl, arr_nil⟩) (fun k => by simp) (fun x hx => absurd hx (Nat.not_lt_zero x))
  rw [← hc.1] at o1
  rw [show (0 : Int32) = nI 0 from rfl]
  dsimp only
  have hcl2 : nI (rHp r) = r_settings 0 := hc.2.2.1.symm
  rw [o1, zbs, o2]
  have hlen : ∀ k, ((asS w).1 k).length ≤ 10 := fun k => by
    by_cases k3 : k < 3
    · have := len_flat (H := (asS w).1) k k3
      have h5 := hI.2.2.2.2
      rw [List.length_range] at h5
      omega
    · cases q : (asS w).1 k with
      | nil => simp
      | cons a l =>
        have := ((hI.1 k a).mp (by rw [q]; simp)).1
        have := hr.2.2.2.1
        omega
  have hl13 := sX8_laying_L13 (ho := rHo r) (H := (asS w).1) fuel q_row n_order n_weights n_black y_going r_guests r_settings hc.2.2.2.1 (by have := hr.2.2.2.2.2.1; omega) 3 fuel 0 (encD b) (encQ b) n_lifts n_begins n_ends n_has n_lifted n_allLifts n_doneAt (r_settings 0) o.2.1 o.2.2.1 o.2.2.2 (by omega) (by omega) o3 hlen (fun k hk => absurd hk (Nat.not_lt_zero k))
  rw [hl13]
  unfold vlS
  by_cases qf : fitB (rHo r) (asS w).1 = true
  · rw [if_pos qf, if_pos qf]
    unfold fX8_tryLaying_J46
    have hod := okO_od r
    rw [← List.append_nil (odR r)] at hod
    obtain ⟨g, g1, g2, g3⟩ := sX3_letGo (S := asS w) (tp := none) (se := r_settings) hf hr hbg.2.1 hbg.1 hbg.2.2 hc.2.2.2.2.2.1 hc.2.2.2.2.1 (fun t ht => by cases ht) (okO_range r) hod hI had o3 (fun x hx => o4 x (List.mem_range.mp hx)) n_lifts n_begins n_ends n_has n_lifted n_allLifts n_doneAt
    rw [odR_len, ← hc.1, hcl2] at g1
    have e4 : (-4 : Int32) = enc none := rfl
    have hdg := sX4_asDigits (fuel := fuel) hf hN hl ha
    rw [← hc.1] at hdg
    rw [e4, g1, zbs, hdg, zbs, g2, sX8_find hb (vlS_le hr hw hl), zbs]
    exact ⟨_, rfl, rfl, rfl⟩
  · rw [if_neg qf, if_neg qf]
    exact ⟨_, rfl, rfl, rfl⟩
theorem sX8_nextLaying {r : SR} {w : List Nat} (fuel : Nat) (q_row : Nat → Int32) (r_guests : Int32) (r_settings : Nat → Int32) (hf : 100 < fuel) (hr : okR r) (hg : r_guests = nI (rN r)) (hs : r_settings 0 = nI (rHp r)) (hw : dgOk (rHp r) w) (hl : w.length = rN r) (ha : arr q_row w) : ∃ r2, fX8_nextLaying fuel q_row r_guests r_settings = some r2 ∧ arr r2 (nxW (rHp r) w) := by
  have hN := hr.1
  obtain ⟨r2, e1, e2⟩ := sX8_next_L7 (se := r_settings) hr.2.2.2.1 hr.2.2.1 hs w.reverse [] fuel q_row (by simp; omega) (by simp; omega) (fun x hx => hw x (List.mem_reverse.mp hx)) (by rw [List.reverse_reverse, List.append_nil]; exact ha)
  rw [List.append_nil] at e2
  rw [List.length_reverse, hl] at e1
  unfold fX8_nextLaying
  rw [zl, hg]
  exact ⟨r2, e1, e2⟩
theorem sX10_nextLaying {r : SR} {w : List Nat} (fuel : Nat) (M_guests : Int32) (M_heaps : Int32) (M_onto : Nat → Int32) (hf : 100 < fuel) (hr : okR r) (hg : M_guests = nI (rN r)) (hs : M_heaps = nI (rHp r)) (hw : dgOk (rHp r) w) (hl : w.length = rN r) (ha : arr M_onto w) : ∃ r2, fX10_nextLaying fuel M_guests M_heaps M_onto = some (zb01 (nxR (rHp r) w.reverse).1, r2) ∧ arr r2 (nxW (rHp r) w) := by
  have hN := hr.1
  obtain ⟨r2, e1, e2⟩ := sX10_next_L7 hr.2.2.2.1 hr.2.2.1 w.reverse [] fuel M_onto (by simp; omega) (by simp; omega) (fun x hx => hw x (List.mem_reverse.mp hx)) (by rw [List.reverse_reverse, List.append_nil]; exact ha)
  rw [List.append_nil] at e2
  rw [List.length_reverse, hl] at e1
  unfold fX10_nextLaying
  rw [zl, hg, hs]
  exact ⟨r2, e1, e2⟩
theorem nxW_ok {hp N : Nat} {w : List Nat} (h0 : 0 < hp) (h3 : hp ≤ 3) (hw : dgOk hp w) (hl : w.length = N) : dgOk hp (nxW hp w) ∧ (nxW hp w).length = N ∧ cpR hp (nxW hp w).reverse = cpR hp w.reverse ∧ (nxR hp w.reverse).1 = decide (rkR hp w.reverse + 1 < cpR hp w.reverse) ∧ ((nxR hp w.reverse).1 = true → rkR hp (nxW hp w).reverse = rkR hp w.reverse + 1) := by
  obtain ⟨a1, a2, a3, a4, a5, a6⟩ := nxR_rk h0 h3 w.reverse (fun x hx => hw x (List.mem_reverse.mp hx))
  unfold nxW
  rw [List.reverse_reverse, List.length_reverse]
  exact ⟨fun x hx => a3 x (List.mem_reverse.mp hx), by rw [a4, List.length_reverse, hl], a2, a5, a6⟩
theorem dgOk_10 {hp : Nat} {w : List Nat} (h3 : hp ≤ 3) (h : dgOk hp w) : ∀ x ∈ w, x < 10 := fun x hx => by rcases h x hx with h | h <;> omega
theorem sX8_lay_L89 {r : SR} {cap : Nat} (fuel : Nat) (r_guests : Int32) (r_settings : Nat → Int32) {r_kinds r_figures r_minutes r_letters : Nat → Int32} {r_hooks r_letterCount : Int32} (hf : 10000 < fuel) (hr : okR r) (hc : cR r r_guests r_kinds r_figures r_minutes r_settings r_hooks r_letters r_letterCount) (hN6 : rN r ≤ 6) (hcap : cap ≤ 1000) :
    ∀ (m n k : Nat) (w : List Nat) (b : Option (Nat × Nat)) (q_row : Nat → Int32) (q_found : Int32) (q_foundLifts : Int32) (n_order : Nat → Int32) (n_weights : Nat → Int32) (n_black : Nat → Int32) (n_lifts : Nat → Int32) (n_begins : Nat → Int32) (n_ends : Nat → Int32) (n_has : Nat → Int32) (n_lifted : Nat → Int32) (n_allLifts : Int32) (n_doneAt : Int32) (y_going : Nat → Int32) (y_coming : Nat → Int32) (b_heaps : Int32) (b_piles : Nat → Nat → Int32) (b_heights : Nat → Int32) (b_spots : Nat → Int32), k + m = cap → m < n → (m ≠ 0 → cpR (rHp r) w.reverse = cap ∧ rkR (rHp r) w.reverse = k) → dgOk (rHp r) w → w.length = rN r → arr q_row w → okB b → q_found = encD b → q_foundLifts = encQ b → bgR r n_weights n_black y_going → arr n_order (odR r) →
      ∃ o, fX8_tryAllLayings_L89 fuel r_guests r_settings n (nI cap) (nI k) q_row q_found q_foundLifts n_order n_weights n_black n_lifts n_begins n_ends n_has n_lifted n_allLifts n_doneAt y_going y_coming b_heaps b_piles b_heights b_spots = some o ∧ o.2.1 = encD (lsS r m w b) ∧ o.2.2.1 = encQ (lsS r m w b) := by
  have hN := hr.1
  intro m
  induction m with
  | zero =>
    intro n k w b q_row q_found q_foundLifts n_order n_weights n_black n_lifts n_begins n_ends n_has n_lifted n_allLifts n_doneAt y_going y_coming b_heaps b_piles b_heights b_spots h1 h2 h3 h4 h5 h6 h7 h8 h9 h10 h11
    obtain ⟨n, rfl⟩ : ∃ k, n = k + 1 := ⟨n - 1, by omega⟩
    rw [fX8_tryAllLayings_L89, if_pos ((nI_leI (by omega) (by omega)).mpr (by omega))]
    exact ⟨_, rfl, h8, h9⟩
  | succ m ih =>
    intro n k w b q_row q_found q_foundLifts n_order n_weights n_black n_lifts n_begins n_ends n_has n_lifted n_allLifts n_doneAt y_going y_coming b_heaps b_piles b_heights b_spots h1 h2 h3 h4 h5 h6 h7 h8 h9 h10 h11
    obtain ⟨n, rfl⟩ : ∃ k, n = k + 1 := ⟨n - 1, by omega⟩
    rw [fX8_tryAllLayings_L89, if_neg (fun e => by have := (nI_leI (by omega) (by omega)).mp e; omega)]
    by_cases q0 : q_foundLifts = 0
    · rw [if_pos q0]
      cases b with
      | none => rw [h9] at q0; exact absurd q0 (by decide)
      | some q =>
        have hq := h7 q rfl
        have h0 : q.2 = 0 := by
          rw [h9] at q0
          exact (nI_eq (b := 0) (by omega) (by decide)).mp q0
        have e : some q = some (q.1, 0) := by rw [← h0]
        rw [e, lsS_zero, ← e]
        exact ⟨_, rfl, h8, h9⟩
    · rw [if_neg q0]
      obtain ⟨o, o1, o2, o3⟩ := sX8_tryLaying (r := r) (w := w) (b := b) fuel q_row q_found q_foundLifts n_order n_weights n_black n_lifts n_begins n_ends n_has n_lifted n_allLifts n_doneAt y_going b_heaps b_piles b_heights b_spots r_guests r_settings (by omega) hr hc hN6 h4 h5 h6 h7 h8 h9 h10 h11
      obtain ⟨r2, x1, x2⟩ := sX8_nextLaying (r := r) (w := w) fuel q_row r_guests r_settings (by omega) hr hc.1 hc.2.2.1 h4 h5 h6
      obtain ⟨y1, y2, y3, y4, y5⟩ := nxW_ok hr.2.2.1 hr.2.2.2.1 h4 h5
      obtain ⟨z1, z2⟩ := h3 (by omega)
      rw [o1, zbs, x1, zbs, zl, show (1 : Int32) = nI 1 from rfl, nI_add]
      refine ih n (k + 1) (nxW (rHp r) w) (upS b (dgS w) (vlS r w)) _ _ _ _ _ _ _ _ _ _ _ _ _ _ _ _ _ _ _ (by omega) (by omega) (fun hm => ?_) y1 y2 x2 (okB_up h7 (dgS_lt (by omega) (dgOk_10 hr.2.2.2.1 h4)) (fun L hL => ?_)) o2 o3 h10 h11
      · have hfl : (nxR (rHp r) w.reverse).1 = true := by rw [y4]; exact decide_eq_true (by omega)
        exact ⟨by rw [y3, z1], by rw [y5 hfl, z2]⟩
      · unfold vlS at hL
        split at hL
        · cases hL; exact vlS_le hr h4 h5
        · cases hL
