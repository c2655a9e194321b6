/-! a stake is no more -/
theorem zI_at (M : MZ) (h k : Nat) (v : Int) : zI (uI M h k v) h k = v := if_pos ⟨rfl, rfl⟩
theorem zL_at (M : MZ) (h k : Nat) (v : Int) : zL (uL M h k v) h k = v := if_pos ⟨rfl, rfl⟩
theorem getD_erase {L : List (Nat → Int)} {i x : Nat} : (L.eraseIdx i).getD x d0 = if x < i then L.getD x d0 else L.getD (x + 1) d0 := by
  rw [List.getD_eq_getElem?_getD, List.getElem?_eraseIdx, List.getD_eq_getElem?_getD, List.getD_eq_getElem?_getD]
  split <;> rfl
theorem len_erase {L : List (Nat → Int)} {i : Nat} (hi : i < L.length) : (L.eraseIdx i).length = L.length - 1 := List.length_eraseIdx_of_lt hi
section RM
variable {M : MZ} {b : Nat} {kk : Bool} {N T : Nat → Int} {L : List (Nat → Int)} {th pe po : Int}
theorem K_remove_loop (hb : bOK b) (R : Rep kk M b N T L th pe po) {i : Nat} (hi : i < L.length) : ∀ (d j f : Nat), i ≤ j → j + d = L.length - 1 → d < f → ∀ M' : MZ, (∀ x, zR M' (b + 3) x = if i ≤ x ∧ x < j then zR M (b + 3) (x + 1) else zR M (b + 3) x) → (∀ h, h ≠ b + 3 → sameH M M' h) → ∃ M'', g_X2_remove_8 f b (zR M (b + 3) i) j M' = some ((), M'') ∧ (∀ x, zR M'' (b + 3) x = if x = L.length - 1 then zR M (b + 3) i else if i ≤ x ∧ x < L.length - 1 then zR M (b + 3) (x + 1) else zR M (b + 3) x) ∧ (∀ h, h ≠ b → h ≠ b + 3 → sameH M M'' h) ∧ (∀ x, zI M'' b x = if x = 3 then (L.length : Int) - 1 else zI M b x) := by
  have h12 := R.2.2.2.2.2.2
  have h3 := R.1.2.2.2.1
  intro d
  induction d with
  | zero =>
    intro j f hj hd hf M' hz hs
    obtain ⟨f, rfl⟩ : ∃ g, f = g + 1 := ⟨f - 1, by omega⟩
    have e3 : zI M' b 3 = L.length := by rw [(hs b (by omega) 3).1]; exact h3
    refine ⟨uR (uI M' b 3 ((L.length : Int) - 1)) (b + 3) (L.length - 1) (zR M (b + 3) i), ?_, ?_, ?_, ?_⟩
    · have e : g_X2_remove_8 (f + 1) b (zR M (b + 3) i) j M' = g_X2_remove_8B (g_X2_remove_8 f) b (zR M (b + 3) i) j M' := rfl
      rw [e]
      unfold g_X2_remove_8B g_X2_remove_53 g_X2_remove_96
      have r := R.2.2.2.2.2.1.rng (i := i) (by omega)
      rw [if_pos (kdb hb), e3, w32_id (x := (j : Int) + 1) (by omega) (by omega), if_pos (by omega), if_neg (by omega), if_pos (kdb hb), if_neg (by omega), if_neg (by omega), w32_id (x := (L.length : Int) - 1) (by omega) (by omega), zI_at, if_pos (by omega), if_pos (R.2.2.2.2.2.1.kd hb (by omega)), show ((L.length : Int) - 1).toNat = L.length - 1 by omega]
    · intro x
      rw [zR_uR]
      by_cases c : x = L.length - 1
      · rw [if_pos ⟨rfl, c⟩, if_pos c]
      · rw [if_neg (fun q => c q.2), if_neg c, zR_uI, hz x, show j = L.length - 1 by omega]
    · intro h h1 h2
      exact ((hs h h2).trans (sameH_uI h1)).trans (sameH_uR h2)
    · intro x
      rw [zI_uR, zI_uI]
      by_cases c : x = 3
      · rw [if_pos ⟨rfl, c⟩, if_pos c]
      · rw [if_neg (fun q => c q.2), if_neg c]
        exact (hs b (by omega) x).1
  | succ d ih =>
    intro j f hj hd hf M' hz hs
    obtain ⟨f, rfl⟩ : ∃ g, f = g + 1 := ⟨f - 1, by omega⟩
    have e3 : zI M' b 3 = L.length := by rw [(hs b (by omega) 3).1]; exact h3
    have e : g_X2_remove_8 (f + 1) b (zR M (b + 3) i) j M' = g_X2_remove_8B (g_X2_remove_8 f) b (zR M (b + 3) i) j M' := rfl
    have ez : zR M' (b + 3) (j + 1) = zR M (b + 3) (j + 1) := by rw [hz, if_neg (by omega)]
    have hstep : g_X2_remove_8B (g_X2_remove_8 f) b (zR M (b + 3) i) j M' = g_X2_remove_8 f b (zR M (b + 3) i) ((j + 1 : Nat) : Int) (uR M' (b + 3) j (zR M (b + 3) (j + 1))) := by
      unfold g_X2_remove_8B
      rw [if_pos (kdb hb), e3, w32_id (x := (j : Int) + 1) (by omega) (by omega), if_neg (by omega), if_neg (by omega), if_neg (by omega), if_pos (by omega), if_pos (by omega), show ((j : Int) + 1).toNat = j + 1 by omega, ez, if_pos (R.2.2.2.2.2.1.kd hb (by omega)), Int.toNat_natCast, show (j : Int) + 1 = ((j + 1 : Nat) : Int) by omega]
    rw [e, hstep]
    refine ih (j + 1) f (by omega) (by omega) (by omega) _ (fun x => ?_) (fun h hh => (hs h hh).trans (sameH_uR hh))
    rw [zR_uR]
    by_cases c : x = j
    · rw [if_pos ⟨rfl, c⟩, if_pos (by omega), c]
    · rw [if_neg (fun q => c q.2), hz x]
      by_cases c2 : i ≤ x ∧ x < j
      · rw [if_pos c2, if_pos (by omega)]
      · rw [if_neg c2, if_neg (by omega)]
theorem K_remove (hb : bOK b) (R : Rep kk M b N T L th pe po) {i : Nat} (hi : i < L.length) : ∃ M', g_X2_remove b i M = some ((), M') ∧ Rep kk M' b N T (L.eraseIdx i) th pe po ∧ FrB b M M' := by
  have h12 := R.2.2.2.2.2.2
  obtain ⟨M', e1, e2, e3, e4⟩ := K_remove_loop hb R hi (L.length - 1 - i) i 100000 (Nat.le_refl _) (by omega) (by omega) M (fun x => by rw [if_neg (by omega)]) (fun _ _ => sameH.rfl)
  refine ⟨M', ?_, ?_, ?_⟩
  · unfold g_X2_remove
    rw [if_pos (kdb hb), K_stakeAt_y hb (by omega) (by rw [R.1.2.2.2.1]; omega)]
    simp only [bindS]
    exact e1
  · obtain ⟨⟨a0, a1, a2, a3, a4, a5⟩, hp, ht, hc, hL, hH, hn⟩ := R
    have hz : ∀ x, x < 12 → zR M' (b + 3) x = zR M (b + 3) (if x = L.length - 1 then i else if i ≤ x ∧ x < L.length - 1 then x + 1 else x) := by
      intro x hx
      rw [e2 x]
      split
      · rfl
      · split <;> rfl
    refine ⟨⟨by rw [e4, if_neg (by omega)]; exact a0, by rw [e4, if_neg (by omega)]; exact a1, by rw [e4, if_neg (by omega)]; exact a2, by rw [e4, if_pos rfl, len_erase hi]; omega, by rw [e4, if_neg (by omega)]; exact a4, by rw [e4, if_neg (by omega)]; exact a5⟩, fun x hx => ?_, fun q p5 pq x hx => ?_, fun q p5 pq x hx hk => ?_, fun j hj x hx => ?_, ⟨fun x hx => ?_, fun x y hx hy he => ?_⟩, by rw [len_erase hi]; omega⟩
    · rw [(e3 (b + 1) (by omega) (by omega) _).1]; exact hp x hx
    · rw [(e3 (b + 2 + 2 + 5 * q) (by omega) (by omega) _).1]; exact ht q p5 pq x hx
    · rw [(e3 (b + 2 + 2 + 5 * q + pad x) (by omega) (by omega) _).1]; exact hc q p5 pq x hx hk
    · rw [len_erase hi] at hj
      rw [hz j (by omega), getD_erase, if_neg (show ¬ j = L.length - 1 by omega)]
      by_cases c : j < i
      · rw [if_neg (by omega), if_pos c]
        have r := hH.rng (i := j) (by omega)
        rw [zS_same (e3 _ (by omega) (by omega)) (e3 _ (by omega) (by omega)) (e3 _ (by omega) (by omega))]
        exact hL j (by omega) x hx
      · rw [if_pos (by omega), if_neg c]
        have r := hH.rng (i := j + 1) (by omega)
        rw [zS_same (e3 _ (by omega) (by omega)) (e3 _ (by omega) (by omega)) (e3 _ (by omega) (by omega))]
        exact hL (j + 1) (by omega) x hx
    · rw [hz x hx]
      refine hH.1 _ ?_
      split
      · omega
      · split <;> omega
    · rw [hz x hx, hz y hy] at he
      have := hH.2 _ _ (by split
                           · omega
                           · split <;> omega) (by split
                                                  · omega
                                                  · split <;> omega) he
      split at this <;> split at this <;> (try split at this) <;> (try split at this) <;> omega
  · intro h hh
    exact e3 h (by omega) (by omega)
theorem R_shift_loop (R : RepR M N T L th pe po) {i : Nat} (hi : i < L.length) : ∀ (d j f : Nat), 138 + 10 * i ≤ j → j + d = 138 + 10 * (L.length - 1) → d < f → ∀ M' : MZ, (∀ x, zL M' 23 x = if 138 + 10 * i ≤ x ∧ x < j then zL M 23 (x + 10) else zL M 23 x) → Fr23 M M' → (∀ x, zI M' 23 x = zI M 23 x) → ∃ M'', g_X12_takesOut_110 f j M' = some ((), M'') ∧ (∀ x, zL M'' 23 x = if x = 137 then (L.length : Int) - 1 else if 138 + 10 * i ≤ x ∧ x < 138 + 10 * (L.length - 1) then zL M 23 (x + 10) else zL M 23 x) ∧ Fr23 M M'' := by
  have h12 := R.2.2.2.2.2
  intro d
  induction d with
  | zero =>
    intro j f hj hd hf M' hz hs hI
    obtain ⟨f, rfl⟩ : ∃ g, f = g + 1 := ⟨f - 1, by omega⟩
    have e137 : zL M' 23 137 = L.length := by rw [hz, if_neg (by omega)]; exact R.2.2.2.1
    have est : g_X12_stakes M' = some ((L.length : Int), M') := by
      unfold g_X12_stakes
      rw [e137, w32_id (by omega) (by omega)]
    refine ⟨uL M' 23 137 ((L.length : Int) - 1), ?_, ?_, hs.trans Fr23_u⟩
    · have e : g_X12_takesOut_110 (f + 1) j M' = g_X12_takesOut_110B (g_X12_takesOut_110 f) j M' := rfl
      rw [e]
      unfold g_X12_takesOut_110B
      rw [est]
      simp only [bindS]
      rw [w32_id (x := (L.length : Int) - 1) (by omega) (by omega), w32_id (x := 10 * ((L.length : Int) - 1)) (by omega) (by omega), w32_id (x := 138 + 10 * ((L.length : Int) - 1)) (by omega) (by omega), if_pos (by omega), e137, w64_id (by omega) (by omega)]
    · intro x
      rw [zL_uL]
      by_cases c : x = 137
      · rw [if_pos ⟨rfl, c⟩, if_pos c]
      · rw [if_neg (fun q => c q.2), if_neg c, hz x, show j = 138 + 10 * (L.length - 1) by omega]
  | succ d ih =>
    intro j f hj hd hf M' hz hs hI
    obtain ⟨f, rfl⟩ : ∃ g, f = g + 1 := ⟨f - 1, by omega⟩
    have e137 : zL M' 23 137 = L.length := by rw [hz, if_neg (by omega)]; exact R.2.2.2.1
    have est : g_X12_stakes M' = some ((L.length : Int), M') := by
      unfold g_X12_stakes
      rw [e137, w32_id (by omega) (by omega)]
    have e : g_X12_takesOut_110 (f + 1) j M' = g_X12_takesOut_110B (g_X12_takesOut_110 f) j M' := rfl
    have ez : zL M' 23 (j + 10) = zL M 23 (j + 10) := by rw [hz, if_neg (by omega)]
    have hstep : g_X12_takesOut_110B (g_X12_takesOut_110 f) j M' = g_X12_takesOut_110 f ((j + 1 : Nat) : Int) (uL M' 23 j (zL M 23 (j + 10))) := by
      unfold g_X12_takesOut_110B
      rw [est]
      simp only [bindS]
      rw [w32_id (x := (L.length : Int) - 1) (by omega) (by omega), w32_id (x := 10 * ((L.length : Int) - 1)) (by omega) (by omega), w32_id (x := 138 + 10 * ((L.length : Int) - 1)) (by omega) (by omega), if_neg (by omega), w32_id (x := (j : Int) + 10) (by omega) (by omega), if_pos (by omega), if_pos (by omega), w32_id (x := (j : Int) + 1) (by omega) (by omega), show ((j : Int) + 10).toNat = j + 10 by omega, ez, Int.toNat_natCast, show (j : Int) + 1 = ((j + 1 : Nat) : Int) by omega]
    rw [e, hstep]
    refine ih (j + 1) f (by omega) (by omega) (by omega) _ (fun x => ?_) (hs.trans Fr23_u) hI
    rw [zL_uL]
    by_cases c : x = j
    · rw [if_pos ⟨rfl, c⟩, if_pos (by omega), c]
    · rw [if_neg (fun q => c q.2), hz x]
      by_cases c2 : 138 + 10 * i ≤ x ∧ x < j
      · rw [if_pos c2, if_pos (by omega)]
      · rw [if_neg c2, if_neg (by omega)]
theorem R_shift (R : RepR M N T L th pe po) {i : Nat} (hi : i < L.length) : ∃ M', g_X12_takesOut_110 100000 (138 + 10 * i : Nat) M = some ((), M') ∧ RepR M' N T (L.eraseIdx i) th pe po ∧ Fr23 M M' := by
  have h12 := R.2.2.2.2.2
  obtain ⟨M', e1, e2, e3⟩ := R_shift_loop R hi (10 * (L.length - 1 - i)) (138 + 10 * i) 100000 (Nat.le_refl _) (by omega) (by omega) M (fun x => by rw [if_neg (by omega)]) Fr23.rfl (fun _ => rfl)
  refine ⟨M', e1, ?_, e3⟩
  obtain ⟨⟨a0, a1, a2⟩, hT, hN, hn, hL, h12⟩ := R
  refine ⟨⟨by rw [(e3 20 (by omega) _).1]; exact a0, by rw [(e3 20 (by omega) _).1]; exact a1, by rw [(e3 20 (by omega) _).1]; exact a2⟩, fun j hj => by rw [(e3 22 (by omega) _).1]; exact hT j hj, fun j hj => by rw [e2, if_neg (by omega), if_neg (by omega)]; exact hN j hj, by rw [e2, if_pos rfl, len_erase hi]; omega, fun j hj x hx => ?_, by rw [len_erase hi]; omega⟩
  rw [len_erase hi] at hj
  rw [e2, if_neg (by omega), getD_erase]
  by_cases c : j < i
  · rw [if_neg (by omega), if_pos c]
    exact hL j (by omega) x hx
  · rw [if_pos (by omega), if_neg c, show 138 + 10 * j + x + 10 = 138 + 10 * (j + 1) + x by omega]
    exact hL (j + 1) (by omega) x hx
end RM
