/-! the invariant holds of the memory behind the constructors -/
theorem S0_I (h k : Nat) : zI (tz S0) h k = 0 := rfl
theorem S0_L (h k : Nat) : zL (tz S0) h k = (if h = 20 then words0.getD k 0 else if h = 21 then (rootsf k).toInt64 else if h = 33 then steps0.getD k 0 else 0).toInt := rfl
theorem S0_R (h k : Nat) : zR (tz S0) h k = if h = 81 then (if k < 12 then 107 + 3 * k else 0) else if h = 146 then (if k < 12 then 172 + 3 * k else 0) else 0 := rfl
theorem S0_HP (b : Nat) (hb : bOK b) : HP (tz S0) b := by
  have key : ∀ i, i < 12 → zR (tz S0) (b + 3) i = b + 29 + 3 * i := by
    intro i hi
    rw [S0_R]
    rcases hb with rfl | rfl
    · rw [if_pos rfl, if_pos hi]
    · rw [if_neg (by omega), if_pos rfl, if_pos hi]
  refine ⟨fun i hi => ⟨i, hi, key i hi⟩, fun i j hi hj he => ?_⟩
  rw [key i hi, key j hj] at he
  omega
theorem INV_S0 : INV S0 := by
  refine ⟨fun _ => 0, fun _ => 0, [], 0, 0, 0, ?_, ?_, ?_, ?_, ?_, ⟨Int.le_refl _, (by show (0 : Int) ≤ 9999999; omega)⟩, S0_HP 143 b143, ?_, ?_⟩
  · exact ⟨⟨rfl, rfl, rfl, rfl, rfl, rfl⟩, fun j _ => rfl, fun p _ hp => by omega, fun p _ hp => by omega, fun i hi => (by cases hi), S0_HP 78 b78, by decide⟩
  · refine ⟨⟨rfl, rfl, rfl⟩, fun j _ => rfl, fun j _ => ?_, ?_, fun i hi => (by cases hi), by decide⟩
    · rw [S0_L, if_neg (by omega), if_neg (by omega), if_neg (by omega)]; rfl
    · rw [S0_L, if_neg (by omega), if_neg (by omega), if_neg (by omega)]; rfl
  · exact ⟨Or.inl ⟨rfl, rfl, rfl, rfl⟩, fun p _ hp => by omega, fun s hs => (by cases hs)⟩
  · refine ⟨fun j _ => Int.le_refl _, fun p k _ hp => by omega, fun t _ => ?_, fun s hs => (by cases hs)⟩
    unfold tot totP
    have : ∀ q : Nat, ¬ (q : Int) < 0 := fun q => by omega
    rw [if_neg (this 0), if_neg (this 1), if_neg (this 2), if_neg (this 3), if_neg (this 4)]
    show (0 : Int) + 0 + 0 + 0 + (0 + 0 + 0 + 0 + 0) ≤ 39999996
    omega
  · intro p _ hp
    omega
  · refine ⟨fun j hj => ?_, fun j _ hj => ?_, fun j hj => ?_⟩
    · rw [S0_L, if_neg (by omega), if_pos rfl]
      exact Int32.toInt_toInt64 _
    · rw [S0_L, if_pos rfl]
    · rw [S0_L, if_neg (by omega), if_neg (by omega), if_pos rfl]
  · refine ⟨by rw [S0_I]; omega, by rw [S0_I, S0_I], fun j _ => ?_⟩
    rw [S0_I, S0_I]
    omega
