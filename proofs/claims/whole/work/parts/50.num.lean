/-! Numbers: an Int32 that is a small natural number is nI n; one list of rules that turn questions of Int32 into questions of Nat. -/
theorem zin_nI {k n : Nat} (h : k < 2 ^ 31) : zin (nI k) n = decide (k < n) := by
  unfold zin
  rw [nI_toInt h]
  exact decide_eq_decide.mpr ⟨fun q => by omega, fun q => by omega⟩
theorem nI_m4 {k : Nat} (h : k < 2 ^ 31) : ¬ nI k = -4 := fun q => by
  have h1 := congrArg Int32.toInt q
  rw [nI_toInt h] at h1
  have h2 : (-4 : Int32).toInt = -4 := rfl
  omega
theorem nI_m1 {k : Nat} (h : k < 2 ^ 31) : ¬ nI k = -1 := fun q => by
  have h1 := congrArg Int32.toInt q
  rw [nI_toInt h] at h1
  have h2 : (-1 : Int32).toInt = -1 := rfl
  omega
theorem nI_sub {a b : Nat} (h : b ≤ a) : nI a - nI b = nI (a - b) := pk_sub h
theorem nI_dec {a : Nat} (h : 0 < a) : nI a + (-1) = nI (a - 1) := by
  obtain ⟨b, rfl⟩ : ∃ b, a = b + 1 := ⟨a - 1, by omega⟩
  exact pk_m1 b
/-- none; away -/
def zNo : Int32 := -4
def zAw : Int32 := -1
theorem zNo_toInt : zNo.toInt = -4 := rfl
theorem zAw_toInt : zAw.toInt = -1 := rfl
theorem nI_no {k : Nat} (h : k < 2 ^ 31) : (nI k = zNo) = False := eq_false (nI_m4 h)
theorem nI_no' {k : Nat} (h : k < 2 ^ 31) : (zNo = nI k) = False := eq_false (fun q => nI_m4 h q.symm)
theorem nI_aw {k : Nat} (h : k < 2 ^ 31) : (nI k = zAw) = False := eq_false (nI_m1 h)
theorem nI_aw' {k : Nat} (h : k < 2 ^ 31) : (zAw = nI k) = False := eq_false (fun q => nI_m1 h q.symm)
theorem no_lt {k : Nat} (h : k < 2 ^ 31) : (zNo < nI k) = True := eq_true (Int32.lt_iff_toInt_lt.mpr (by rw [zNo_toInt, nI_toInt h]; omega))
theorem aw_lt {k : Nat} (h : k < 2 ^ 31) : (zAw < nI k) = True := eq_true (Int32.lt_iff_toInt_lt.mpr (by rw [zAw_toInt, nI_toInt h]; omega))
theorem le_no {k : Nat} (h : k < 2 ^ 31) : (nI k ≤ zNo) = False := eq_false (fun q => by have := Int32.le_iff_toInt_le.mp q; rw [zNo_toInt, nI_toInt h] at this; omega)
theorem le_aw {k : Nat} (h : k < 2 ^ 31) : (nI k ≤ zAw) = False := eq_false (fun q => by have := Int32.le_iff_toInt_le.mp q; rw [zAw_toInt, nI_toInt h] at this; omega)
/-- literals -/
theorem zlit : (0 : Int32) = nI 0 ∧ (1 : Int32) = nI 1 ∧ (2 : Int32) = nI 2 ∧ (3 : Int32) = nI 3 ∧ (4 : Int32) = nI 4 ∧ (5 : Int32) = nI 5 ∧ (6 : Int32) = nI 6 ∧ (7 : Int32) = nI 7 ∧ (8 : Int32) = nI 8 ∧ (9 : Int32) = nI 9 ∧ (10 : Int32) = nI 10 ∧ (20 : Int32) = nI 20 ∧ (99 : Int32) = nI 99 ∧ (100 : Int32) = nI 100 ∧ (999 : Int32) = nI 999 ∧ -(nI 4) = zNo ∧ -(nI 1) = zAw := ⟨rfl, rfl, rfl, rfl, rfl, rfl, rfl, rfl, rfl, rfl, rfl, rfl, rfl, rfl, rfl, rfl, rfl⟩
/-- questions -/
theorem zz : (∀ a b : Nat, a < 2 ^ 31 → b < 2 ^ 31 → (nI a ≤ nI b ↔ a ≤ b)) ∧ (∀ a b : Nat, a < 2 ^ 31 → b < 2 ^ 31 → (nI a < nI b ↔ a < b)) ∧ (∀ a b : Nat, a < 2 ^ 31 → b < 2 ^ 31 → (nI a = nI b ↔ a = b)) ∧ (∀ a : Nat, a < 2 ^ 31 → (nI a).toNatClampNeg = a) ∧ (∀ k n : Nat, k < 2 ^ 31 → zin (nI k) n = decide (k < n)) ∧ (∀ a b : Nat, nI a + nI b = nI (a + b)) ∧ (∀ a b : Nat, b ≤ a → nI a - nI b = nI (a - b)) ∧ (∀ a : Nat, 0 < a → nI a + zAw = nI (a - 1)) ∧ (∀ a b : Nat, nI a * nI b = nI (a * b)) ∧ (∀ k : Nat, k < 2 ^ 31 → (nI k = zNo) = False) ∧ (∀ k : Nat, k < 2 ^ 31 → (zNo = nI k) = False) ∧ (∀ k : Nat, k < 2 ^ 31 → (nI k = zAw) = False) ∧ (∀ k : Nat, k < 2 ^ 31 → (zAw = nI k) = False) ∧ (∀ k : Nat, k < 2 ^ 31 → (zNo < nI k) = True) ∧ (∀ k : Nat, k < 2 ^ 31 → (zAw < nI k) = True) ∧ (∀ k : Nat, k < 2 ^ 31 → (nI k ≤ zNo) = False) ∧ (∀ k : Nat, k < 2 ^ 31 → (nI k ≤ zAw) = False) ∧ (zNo = zAw) = False ∧ (zAw = zNo) = False :=
  ⟨fun a b ha hb => nI_leI ha hb, fun a b ha hb => nI_ltI ha hb, fun a b ha hb => nI_eq ha hb, fun a h => nI_clamp h, fun k n h => zin_nI h, fun a b => nI_add a b, fun a b h => nI_sub h, fun a h => nI_dec h, fun a b => pk_mul a b, fun _ => nI_no, fun _ => nI_no', fun _ => nI_aw, fun _ => nI_aw', fun _ => no_lt, fun _ => aw_lt, fun _ => le_no, fun _ => le_aw, eq_false (by decide), eq_false (by decide)⟩
/-- a boolean, as the classes tell it -/
def zb01 (b : Bool) : Int32 := if b = true then nI 1 else nI 0
theorem zbz : (∀ b : Bool, (zb01 b = nI 0) = (b = false)) ∧ (∀ b : Bool, (zb01 b = nI 1) = (b = true)) ∧ zb01 true = nI 1 ∧ zb01 false = nI 0 := ⟨fun b => by cases b <;> simp [zb01, nI_eq], fun b => by cases b <;> simp [zb01, nI_eq], rfl, rfl⟩
theorem zgt {β : Type} {k : Option β} : zg true k = k := rfl
theorem zgd' {β : Type} {P : Prop} [Decidable P] {k : Option β} (h : P) : zg (decide P) k = k := by
  unfold zg
  rw [decide_eq_true h]
  rfl
theorem zl {α β : Type} {v : α} {k : α → Option β} : zlet v k = k v := rfl
theorem zbs {α β : Type} {v : α} {k : α → Option β} : (some v).bind k = k v := rfl
-- a try: the bed is cleared
theorem sX0_clear_L35 (heaps : Int32) (hts : Nat → Int32) : ∀ (m n i : Nat) (sps : Nat → Int32), i + m = 10 → m < n → fX0_clear_L35 n (nI i) heaps hts sps = some (heaps, hts, fun j => if i ≤ j ∧ j < 10 then zAw else sps j) := by
  intro m
  induction m with
  | zero =>
    intro n i sps h1 h2
    obtain ⟨n, rfl⟩ : ∃ k, n = k + 1 := ⟨n - 1, by omega⟩
    rw [fX0_clear_L35]
    simp (disch := omega) only [zlit, zz, if_pos]
    congr 3
    funext j
    rw [if_neg (by omega)]
  | succ m ih =>
    intro n i sps h1 h2
    obtain ⟨n, rfl⟩ : ∃ k, n = k + 1 := ⟨n - 1, by omega⟩
    rw [fX0_clear_L35]
    simp (disch := omega) only [zlit, zz, if_neg, zgd', zl]
    rw [ih n (i + 1) _ (by omega) (by omega)]
    congr 3
    funext j
    unfold upd
    repeat' split
    all_goals first | rfl | omega
