/-! The specification: coats are numbers, heaps are lists from the bottom on. -/
def wtS (k f : Nat) : Nat := if k = 1 then 3 else if k = 2 then 1 + f / 3 else if k = 4 then 2 + f / 3 else if k = 5 then 0 else 1
def goS (k f m : Nat) : Nat := if k = 7 then 99 else if k = 5 then m - f else m
def blS (k : Nat) : Bool := decide (k = 3) || decide (k = 6)
def spS (k f : Nat) : Nat := if k = 6 then f else 99
/-- a heap or none, as the classes tell it -/
def enc (o : Option Nat) : Int32 := match o with | none => zNo | some t => nI t
theorem encz : enc none = zNo ∧ ∀ t, enc (some t) = nI t := ⟨rfl, fun _ => rfl⟩
/-- the best of some heaps, tried one behind the other -/
def bestH (bt : Nat → Option Nat → Bool) : List Nat → Option Nat → Option Nat
  | [], b => b
  | h :: t, b => bestH bt t (if bt h b = true then some h else b)
/-- is a heap better than another one by a letter, for one who goes at mg; ln lengths, tm the minute of the top -/
def btI (letter : Nat) (ln : Nat → Nat) (tm : Nat → Option Nat) (mg : Nat) (h : Nat) (than : Option Nat) : Bool := match letter with
    | 1 => (match than with | none => true | some t => decide (ln h < ln t))
    | 2 => (match than with | none => decide (ln h = 0) | some _ => false)
    | 3 => (match tm h with | none => false | some a => (match than with | none => true | some t => (match tm t with | none => false | some b => decide (b < a))))
    | 4 => (match tm h with | none => false | some a => decide (mg < a) && (match than with | none => true | some t => (match tm t with | none => false | some b => decide (a < b))))
    | _ => (match than with | none => true | some _ => false)
def btS (letter : Nat) (ho : Nat) (ln : Nat → Nat) (tm : Nat → Option Nat) (mg : Nat) (h : Nat) (than : Option Nat) : Bool := decide (ln h < ho) && btI letter ln tm mg h than
/-- the heaps in the order in which a letter looks at them -/
def hlS (letter hp : Nat) (lat : Option Nat) : List Nat := match letter, lat with
  | 5, some t => (List.range hp).map fun k => (t + 1 + k) % hp
  | _, _ => List.range hp
def byS (letter hp ho : Nat) (ln : Nat → Nat) (tm : Nat → Option Nat) (lat : Option Nat) (mg : Nat) : Option Nat := bestH (btS letter ho ln tm mg) (hlS letter hp lat) none
/-- the heap for one who comes -/
def forS (hp ho : Nat) (ln : Nat → Nat) (tm : Nat → Option Nat) (lat : Option Nat) (mg : Nat) : List Nat → Option Nat
  | [] => byS 0 hp ho ln tm lat mg
  | a :: L => match byS a hp ho ln tm lat mg with | some h => some h | none => forS hp ho ln tm lat mg L
abbrev HP : Type := Nat → List Nat
def lnS (H : HP) : Nat → Nat := fun h => (H h).length
def tmS (mn : Nat → Nat) (H : HP) : Nat → Option Nat := fun h => (H h).getLast?.map mn
/-- where a coat comes to be: a heap, 9 a hook, 10 the floor -/
def whS (hp ho : Nat) (L : List Nat) (hang : Nat → Bool) (mn : Nat → Nat) (H : HP) (lat : Option Nat) (g : Nat) : Nat :=
  if hang g = true then 9 else match forS hp ho (lnS H) (tmS mn H) lat (mn g) L with | some h => h | none => 10
/-- heaps, the one laid on latest, where each is -/
abbrev LayS : Type := HP × Option Nat × (Nat → Nat)
def layOneS (hp ho : Nat) (L : List Nat) (hang : Nat → Bool) (mn : Nat → Nat) (s : LayS) (g : Nat) : LayS :=
  let c := whS hp ho L hang mn s.1 s.2.1 g
  (if c < 3 then va_up s.1 c (s.1 c ++ [g]) else s.1, if c < 3 then some c else s.2.1, va_up s.2.2 g c)
def layS (hp ho : Nat) (L : List Nat) (hang : Nat → Bool) (mn : Nat → Nat) (cs : List Nat) : LayS := cs.foldl (layOneS hp ho L hang mn) (fun _ => [], none, fun _ => 10)
/-- an array holds a list -/
def arr (a : Nat → Int32) (l : List Nat) : Prop := ∀ i x, l[i]? = some x → a i = nI x
theorem arr_nil {a : Nat → Int32} : arr a [] := fun i x h => by simp at h
theorem arr_push {a : Nat → Int32} {l : List Nat} {x : Nat} (h : arr a l) : arr (upd a l.length (nI x)) (l ++ [x]) := by
  intro i y hy
  unfold upd
  rw [List.getElem?_append] at hy
  split at hy
  · rw [if_neg (by omega)]
    exact h i y hy
  · have : i = l.length := by
      rw [List.getElem?_singleton] at hy
      split at hy
      · omega
      · cases hy
    subst this
    simp at hy
    rw [if_pos rfl, hy]
theorem arr_last {a : Nat → Int32} {l : List Nat} {x : Nat} (h : arr a l) (hx : l.getLast? = some x) : a (l.length - 1) = nI x := by
  rw [List.getLast?_eq_getElem?] at hx
  exact h _ x hx
/-- the bed of the class holds heaps -/
def cB (H : HP) (piles : Nat → Nat → Int32) (heights : Nat → Int32) : Prop := ∀ h, h < 3 → heights h = nI (H h).length ∧ arr (piles h) (H h)
/-- the piles of the model hold heaps -/
def mB (H : HP) (pile : Nat → Int32) (high : Nat → Int32) : Prop := ∀ h, h < 3 → high h = nI (H h).length ∧ ∀ i x, (H h)[i]? = some x → pile (10 * h + i) = nI x
/-- heaps of numbers below N, ten at most on one -/
def okH (N : Nat) (H : HP) : Prop := ∀ h, (H h).length ≤ 10 ∧ ∀ x ∈ H h, x < N
