/-! the root moves: what lies in a stake moves with it -/
def mvX (k : Nat) (r r' : Int) : Rat := if k = 0 then rho r' - rho r else ((r' : Rat) - (r : Rat)) / 100000
/-- from root r, zone z to r', z', no edge of the stake lies strictly between -/
def Mv (side g r z r' z' lo hi : Int) : Prop := (side = 0 → g ≤ z ∧ g - 1 ≤ z' ∧ z' ≤ z ∧ (z' = g - 1 → r' = rtz g) ∧ ¬ (g < lo ∧ lo ≤ z) ∧ ¬ (g < hi ∧ hi ≤ z)) ∧ (side = 1 → z < g ∧ z ≤ z' ∧ z' ≤ g ∧ (z' = g → r' = rtz g) ∧ ¬ (z < lo ∧ lo < g) ∧ ¬ (z < hi ∧ hi < g))
theorem uX_mv {side g r z r' z' lo hi : Int} (hs : side = 0 ∨ side = 1) (h : Mv side g r z r' z' lo hi) (hl : lo < hi) {k : Nat} (hk : k < 2) : uX k r' z' lo hi = uX k r z lo hi + (if lo ≤ z ∧ z < hi then mvX k r r' else 0) := by
  have e1 : ∀ a : Int, (z' = g - 1 ∨ z' = g) → r' = rtz g → a = g → rtz a = r' := fun a _ h1 h2 => by rw [h2, h1]
  rcases hs with rfl | rfl
  · obtain ⟨h1, h2, h3, h4, h5, h6⟩ := h.1 rfl
    rcases (show k = 0 ∨ k = 1 by omega) with rfl | rfl
    · unfold mvX
      rw [uX_0, uX_0, if_pos rfl]
      by_cases c1 : z < lo
      · rw [if_pos c1, if_pos (show z' < lo by omega), if_neg (show ¬ (lo ≤ z ∧ z < hi) by omega)]
        grind
      · by_cases c2 : hi ≤ z
        · rw [if_neg c1, if_pos c2, if_neg (show ¬ (lo ≤ z ∧ z < hi) by omega), if_neg (show ¬ z' < lo by omega)]
          by_cases c3 : hi ≤ z'
          · rw [if_pos c3]; grind
          · rw [if_neg c3, h4 (by omega), show hi = g by omega]
            grind
        · rw [if_neg c1, if_neg c2, if_pos (show lo ≤ z ∧ z < hi by omega), if_neg (show ¬ hi ≤ z' by omega)]
          by_cases c3 : z' < lo
          · rw [if_pos c3, h4 (by omega), show lo = g by omega]
            grind
          · rw [if_neg c3]
            grind
    · unfold mvX
      rw [uX_1, uX_1, if_neg (show ¬ (1 : Nat) = 0 by omega)]
      by_cases c1 : z < lo
      · rw [if_pos c1, if_pos (show z' < lo by omega), if_neg (show ¬ (lo ≤ z ∧ z < hi) by omega)]
        grind
      · by_cases c2 : hi ≤ z
        · rw [if_neg c1, if_pos c2, if_neg (show ¬ (lo ≤ z ∧ z < hi) by omega), if_neg (show ¬ z' < lo by omega)]
          by_cases c3 : hi ≤ z'
          · rw [if_pos c3]; grind
          · rw [if_neg c3, h4 (by omega), show hi = g by omega]
            grind
        · rw [if_neg c1, if_neg c2, if_pos (show lo ≤ z ∧ z < hi by omega), if_neg (show ¬ hi ≤ z' by omega)]
          by_cases c3 : z' < lo
          · rw [if_pos c3, h4 (by omega), show lo = g by omega]
            grind
          · rw [if_neg c3]
            grind
  · obtain ⟨h1, h2, h3, h4, h5, h6⟩ := h.2 rfl
    rcases (show k = 0 ∨ k = 1 by omega) with rfl | rfl
    · unfold mvX
      rw [uX_0, uX_0, if_pos rfl]
      by_cases c1 : z < lo
      · rw [if_pos c1, if_neg (show ¬ (lo ≤ z ∧ z < hi) by omega)]
        by_cases c3 : z' < lo
        · rw [if_pos c3]; grind
        · rw [if_neg c3, if_neg (show ¬ hi ≤ z' by omega), h4 (by omega), show lo = g by omega]
          grind
      · by_cases c2 : hi ≤ z
        · rw [if_neg c1, if_pos c2, if_neg (show ¬ (lo ≤ z ∧ z < hi) by omega), if_neg (show ¬ z' < lo by omega), if_pos (show hi ≤ z' by omega)]
          grind
        · rw [if_neg c1, if_neg c2, if_pos (show lo ≤ z ∧ z < hi by omega), if_neg (show ¬ z' < lo by omega)]
          by_cases c3 : hi ≤ z'
          · rw [if_pos c3, h4 (by omega), show hi = g by omega]
            grind
          · rw [if_neg c3]
            grind
    · unfold mvX
      rw [uX_1, uX_1, if_neg (show ¬ (1 : Nat) = 0 by omega)]
      by_cases c1 : z < lo
      · rw [if_pos c1, if_neg (show ¬ (lo ≤ z ∧ z < hi) by omega)]
        by_cases c3 : z' < lo
        · rw [if_pos c3]; grind
        · rw [if_neg c3, if_neg (show ¬ hi ≤ z' by omega), h4 (by omega), show lo = g by omega]
          grind
      · by_cases c2 : hi ≤ z
        · rw [if_neg c1, if_pos c2, if_neg (show ¬ (lo ≤ z ∧ z < hi) by omega), if_neg (show ¬ z' < lo by omega), if_pos (show hi ≤ z' by omega)]
          grind
        · rw [if_neg c1, if_neg c2, if_pos (show lo ≤ z ∧ z < hi by omega), if_neg (show ¬ z' < lo by omega)]
          by_cases c3 : hi ≤ z'
          · rw [if_pos c3, h4 (by omega), show hi = g by omega]
            grind
          · rw [if_neg c3]
            grind
