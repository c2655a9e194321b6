/-! a mark is made whatever the marks are -/
theorem K_sum_any {h : Nat} (kh : kd h = (3, 12)) (t : Int) (M : MZ) : ∃ v, g_X4_sumAt h t M = some (v, M) := by
  have x114 : ∀ (i : Int) (v : Int), 0 ≤ i → i < 8 → ∃ w, g_X4_sumAt_114 h t i v M = some (w, M) := fun i v h1 h2 => by
    unfold g_X4_sumAt_114
    rw [if_pos kh, if_pos (by omega), if_pos (by omega)]
    exact ⟨_, rfl⟩
  have x33 : ∀ i : Int, ∃ w, g_X4_sumAt_33 h t i M = some (w, M) := fun i => by
    unfold g_X4_sumAt_33 g_X4_sumAt_43
    by_cases c1 : i < 0
    · rw [if_pos c1]; exact ⟨_, rfl⟩
    · rw [if_neg c1]
      by_cases c2 : i < 8
      · rw [if_pos c2, if_pos kh]
        unfold g_X4_sumAt_50
        rw [if_pos kh, w32_id (x := i + 1) (by omega) (by omega)]
        by_cases c3 : zI M h 7 ≤ i + 1
        · rw [if_pos c3]; exact x114 _ _ (by omega) c2
        · rw [if_neg c3]
          by_cases c4 : 8 ≤ i + 1
          · rw [if_pos c4]; exact x114 _ _ (by omega) c2
          · rw [if_neg c4, if_pos (by omega), if_pos (by omega)]
            unfold g_X4_sumAt_85 g_X4_sumAt_113
            rw [w32_id (x := i + 1) (by omega) (by omega)]
            generalize w32 (zI M (h + 3) (i + 1).toNat - zI M (h + 3) i.toNat) = v4
            by_cases c5 : 1 ≤ v4
            · rw [if_pos c5, if_pos kh, if_pos (by omega), if_pos (by omega), if_neg (by omega)]
              exact x114 _ _ (by omega) c2
            · rw [if_neg c5]
              exact x114 _ _ (by omega) c2
      · rw [if_neg c2]; exact ⟨_, rfl⟩
  have xl : ∀ (n f : Nat) (i : Int), i ≤ n → n < f → ∃ w, g_X4_sumAt_7 f h t i M = some (w, M) := by
    intro n
    induction n with
    | zero =>
      intro f i hi hf
      obtain ⟨f, rfl⟩ : ∃ g, f = g + 1 := ⟨f - 1, by omega⟩
      have e : g_X4_sumAt_7 (f + 1) h t i M = g_X4_sumAt_7B (g_X4_sumAt_7 f) h t i M := rfl
      rw [e]
      unfold g_X4_sumAt_7B
      rw [if_pos (by omega)]
      exact x33 i
    | succ n ih =>
      intro f i hi hf
      obtain ⟨f, rfl⟩ : ∃ g, f = g + 1 := ⟨f - 1, by omega⟩
      have e : g_X4_sumAt_7 (f + 1) h t i M = g_X4_sumAt_7B (g_X4_sumAt_7 f) h t i M := rfl
      rw [e]
      unfold g_X4_sumAt_7B
      by_cases c1 : i ≤ 0
      · rw [if_pos c1]; exact x33 i
      · rw [if_neg c1]
        by_cases c2 : 8 ≤ i
        · rw [if_pos c2]; exact x33 i
        · rw [if_neg c2, if_pos kh, if_pos (by omega)]
          by_cases c3 : zI M (h + 3) i.toNat ≤ t
          · rw [if_pos c3]; exact x33 i
          · rw [if_neg c3, w32_id (x := i + -1) (by omega) (by omega)]
            exact ih f (i + -1) (by omega) (by omega)
  have fin : ∀ i : Int, ∃ w, g_X4_sumAt_7 100000 h t i M = some (w, M) := fun i => by
    by_cases c : i ≤ 8
    · exact xl 8 100000 i (by omega) (by omega)
    · have e : g_X4_sumAt_7 100000 h t i M = g_X4_sumAt_7B (g_X4_sumAt_7 99999) h t i M := rfl
      rw [e]
      unfold g_X4_sumAt_7B
      rw [if_neg (by omega), if_pos (by omega)]
      exact x33 i
  unfold g_X4_sumAt
  rw [if_pos kh]
  exact fin _
theorem K_mark_any {h : Nat} (kh : kd h = (3, 12)) (t : Int) (M : MZ) : ∃ M', g_X4_mark h t M = some ((), M') ∧ (∀ x, x ≠ h → x ≠ h + 3 → x ≠ h + 4 → sameH M M' x) ∧ (∀ k, k ≠ 7 → zI M' h k = zI M h k) := by
  have x79 : ∀ (v : Int) (M1 : MZ), zI M1 h 7 < 8 → (∀ x, x ≠ h → x ≠ h + 3 → x ≠ h + 4 → sameH M M1 x) → (∀ k, k ≠ 7 → zI M1 h k = zI M h k) → ∃ M', g_X4_mark_79 h t v M1 = some ((), M') ∧ (∀ x, x ≠ h → x ≠ h + 3 → x ≠ h + 4 → sameH M M' x) ∧ (∀ k, k ≠ 7 → zI M' h k = zI M h k) := by
    intro v M1 h7 f1 f2
    unfold g_X4_mark_79 g_X4_mark_116
    rw [if_pos kh]
    by_cases c : zI M1 h 7 < 0
    · rw [if_pos c]
      exact ⟨M1, rfl, f1, f2⟩
    · have e1 : ∀ (k : Nat) (v : Int), zI (uI M1 (h + 3) k v) h 7 = zI M1 h 7 := fun k v => by rw [zI_uI, if_neg (by omega)]
      rw [if_neg c, if_pos (by omega), e1, if_pos (by omega)]
      refine ⟨_, rfl, fun x a1 a2 a3 => (((f1 x a1 a2 a3).trans (sameH_uI a2)).trans (sameH_uI a3)).trans (sameH_uI a1), fun k hk => ?_⟩
      rw [zI_uI, if_neg (fun q => hk q.2), zI_uI, if_neg (by omega), zI_uI, if_neg (by omega)]
      exact f2 k hk
  have x28 : ∃ M', g_X4_mark_28 h t M = some ((), M') ∧ (∀ x, x ≠ h → x ≠ h + 3 → x ≠ h + 4 → sameH M M' x) ∧ (∀ k, k ≠ 7 → zI M' h k = zI M h k) := by
    obtain ⟨v, ev⟩ := K_sum_any kh t M
    unfold g_X4_mark_28
    rw [if_pos kh, ev]
    simp only [bindS]
    by_cases c : zI M h 7 < 8
    · rw [if_pos c]
      exact x79 v M c (fun _ _ _ _ => sameH.rfl) (fun _ _ => rfl)
    · rw [if_neg c]
      refine x79 v _ (by rw [zI_at]; omega) (fun x a1 a2 a3 => ((sameH_zcp a2).trans (sameH_zcp a3)).trans (sameH_uI a1)) (fun k hk => ?_)
      rw [zI_uI, if_neg (fun q => hk q.2), (sameH_zcp (by omega) k).1, (sameH_zcp (by omega) k).1]
  unfold g_X4_mark g_X4_mark_7
  rw [if_pos kh]
  generalize w32 (zI M h 7 - 1) = i
  by_cases c1 : i < 0
  · rw [if_pos c1]; exact x28
  · rw [if_neg c1]
    by_cases c2 : 8 ≤ i
    · rw [if_pos c2]; exact x28
    · rw [if_neg c2, if_pos kh, if_pos (by omega)]
      by_cases c3 : zI M (h + 3) i.toNat = t
      · rw [if_pos c3]
        exact ⟨M, rfl, fun _ _ _ _ => sameH.rfl, fun _ _ => rfl⟩
      · rw [if_neg c3]; exact x28
theorem MkO_false {M : MZ} {b : Nat} {N T : Nat → Int} {L : List (Nat → Int)} {th pe po : Int} (hb : bOK b) (R : Rep false M b N T L th pe po) {p : Nat} (hp : p < 5) (t : Int) : MkO false M b p N T L th pe po t := by
  intro M0 h
  obtain ⟨M1, a1, a2, a3⟩ := K_mark_any (kdp hb hp) t M0
  refine ⟨M1, a1, (R.not4 hb h).marks hp a2 a3 (fun _ _ => rfl) (fun q => absurd q (by decide)), fun x hx => a2 x (by omega) (by omega) (by omega)⟩
