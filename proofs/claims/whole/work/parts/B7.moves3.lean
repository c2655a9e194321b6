/-! no edge lies between the root and the aim -/
theorem amS_0 (z a t : Int) : a ≤ amS 0 z a t ∧ (t ≤ z → t ≤ amS 0 z a t) := by
  unfold amS
  rw [if_pos rfl]
  split <;> omega
theorem amS_1 (z a t : Int) : amS 1 z a t ≤ a ∧ (z < t → amS 1 z a t ≤ t) := by
  unfold amS
  rw [if_neg (by omega)]
  split <;> omega
theorem amL_0 (p z a : Int) (s : Nat → Int) : a ≤ amL p 0 z a s ∧ (s 1 = p → (s 2 ≤ z → s 2 ≤ amL p 0 z a s) ∧ (s 3 ≤ z → s 3 ≤ amL p 0 z a s)) := by
  unfold amL
  have h1 := amS_0 z a (s 2)
  have h2 := amS_0 z (amS 0 z a (s 2)) (s 3)
  split
  · exact ⟨by omega, fun _ => ⟨fun q => by have := h1.2 q; omega, h2.2⟩⟩
  · rename_i c
    exact ⟨by omega, fun q => absurd q c⟩
theorem amL_1 (p z a : Int) (s : Nat → Int) : amL p 1 z a s ≤ a ∧ (s 1 = p → (z < s 2 → amL p 1 z a s ≤ s 2) ∧ (z < s 3 → amL p 1 z a s ≤ s 3)) := by
  unfold amL
  have h1 := amS_1 z a (s 2)
  have h2 := amS_1 z (amS 1 z a (s 2)) (s 3)
  split
  · exact ⟨by omega, fun _ => ⟨fun q => by have := h1.2 q; omega, h2.2⟩⟩
  · rename_i c
    exact ⟨by omega, fun q => absurd q c⟩
theorem aim_no0 (p z : Int) : ∀ (L : List (Nat → Int)) (e : Int), e ≤ aim L p 0 z e ∧ ∀ s, s ∈ L → s 1 = p → ¬ (aim L p 0 z e < s 2 ∧ s 2 ≤ z) ∧ ¬ (aim L p 0 z e < s 3 ∧ s 3 ≤ z) := by
  intro L
  induction L with
  | nil => exact fun e => ⟨Int.le_refl _, fun s hs => nomatch hs⟩
  | cons x l ih =>
    intro e
    have h0 := amL_0 p z e x
    obtain ⟨i1, i2⟩ := ih (amL p 0 z e x)
    have ee : aim (x :: l) p 0 z e = aim l p 0 z (amL p 0 z e x) := rfl
    rw [ee]
    refine ⟨by omega, fun s hs hp => ?_⟩
    rcases List.mem_cons.mp hs with q | q
    · subst q
      have := h0.2 hp
      exact ⟨fun w => by have := this.1 w.2; omega, fun w => by have := this.2 w.2; omega⟩
    · exact i2 s q hp
theorem aim_no1 (p z : Int) : ∀ (L : List (Nat → Int)) (e : Int), aim L p 1 z e ≤ e ∧ ∀ s, s ∈ L → s 1 = p → ¬ (z < s 2 ∧ s 2 < aim L p 1 z e) ∧ ¬ (z < s 3 ∧ s 3 < aim L p 1 z e) := by
  intro L
  induction L with
  | nil => exact fun e => ⟨Int.le_refl _, fun s hs => nomatch hs⟩
  | cons x l ih =>
    intro e
    have h0 := amL_1 p z e x
    obtain ⟨i1, i2⟩ := ih (amL p 1 z e x)
    have ee : aim (x :: l) p 1 z e = aim l p 1 z (amL p 1 z e x) := rfl
    rw [ee]
    refine ⟨by omega, fun s hs hp => ?_⟩
    rcases List.mem_cons.mp hs with q | q
    · subst q
      have := h0.2 hp
      exact ⟨fun w => by have := this.1 w.1; omega, fun w => by have := this.2 w.1; omega⟩
    · exact i2 s q hp
