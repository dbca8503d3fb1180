/-! The call: leaves. -/
def lvS (v g : Nat) : Nat := v % 2 ^ g + v / 2 ^ (g + 1) * 2 ^ g
theorem zleave : ∀ g, g < 10 → ∀ v, v < 1024 → (nI v &&& (((1 : Int32) <<< (nI g &&& 31)) - 1)) ||| ((nI v >>> ((nI g + 1) &&& 31)) <<< (nI g &&& 31)) = nI (lvS v g) := by decide +kernel
theorem pop_leave : ∀ g, g < 10 → ∀ v, v < 1024 → popS (lvS v g) ≤ popS v := by decide +kernel
