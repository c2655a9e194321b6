/-! all stakes of the pool together: the depth moves with the root -/
theorem sum_mv {L : List (Nat → Int)} {p : Nat} {side g r z r' z' : Int} (hs : side = 0 ∨ side = 1) (h : ∀ s, s ∈ L → s 1 = p → Mv side g r z r' z' (s 2) (s 3) ∧ s 2 < s 3) {k : Nat} (hk : k < 2) : sumR (claimX p k r' z') L = sumR (claimX p k r z) L + ((dep L p z : Int) : Rat) * mvX k r r' := by
  induction L with
  | nil =>
    show (0 : Rat) = 0 + ((0 : Int) : Rat) * mvX k r r'
    grind
  | cons s l ih =>
    have ih' := ih (fun x hx => h x (List.mem_cons_of_mem _ hx))
    have e1 : sumR (claimX p k r' z') (s :: l) = claimX p k r' z' s + sumR (claimX p k r' z') l := rfl
    have e2 : sumR (claimX p k r z) (s :: l) = claimX p k r z s + sumR (claimX p k r z) l := rfl
    have e3 : dep (s :: l) p z = dpf p z s + dep l p z := rfl
    rw [e1, e2, e3, ih', Rat.intCast_add]
    have key : claimX p k r' z' s = claimX p k r z s + ((dpf p z s : Int) : Rat) * mvX k r r' := by
      unfold claimX dpf
      by_cases c : s 1 = p
      · obtain ⟨a1, a2⟩ := h s (List.mem_cons_self ..) c
        rw [if_pos c, if_pos c, uX_mv hs a1 a2 hk]
        by_cases c2 : s 2 ≤ z ∧ z < s 3
        · rw [if_pos c2, if_pos ⟨c, c2⟩]
          grind
        · rw [if_neg c2, if_neg (fun q => c2 q.2)]
          grind
      · rw [if_neg c, if_neg c, if_neg (fun q => c q.1)]
        grind
    rw [key]
    grind
