/-! the reference begins a market; the class's spare is cleared -/
theorem K_clear (M : MZ) : ∃ M', g_X2_clear 143 M = some ((), M') ∧ (∀ x, x ≠ 143 → x ≠ 144 → sameH M M' x) ∧ (∀ k, k < 6 → zI M' 143 k = 0) ∧ (∀ k, k < 20 → zI M' 144 k = 0) ∧ (∀ a k, zR M' a k = zR M a k) := by
  have lp : ∀ (d k f : Nat) (Mx : MZ), k + d = 20 → d < f → (∀ j, j < k → zI Mx 144 j = 0) → ∃ M', g_X2_clear_32 f 143 k Mx = some ((), M') ∧ (∀ x, x ≠ 144 → sameH Mx M' x) ∧ (∀ j, j < 20 → zI M' 144 j = 0) ∧ (∀ a k, zR M' a k = zR Mx a k) := by
    intro d
    induction d with
    | zero =>
      intro k f Mx hk hf hz
      obtain ⟨f, rfl⟩ : ∃ g, f = g + 1 := ⟨f - 1, by omega⟩
      have e : g_X2_clear_32 (f + 1) 143 k Mx = g_X2_clear_32B (g_X2_clear_32 f) 143 k Mx := rfl
      refine ⟨Mx, ?_, fun _ _ => sameH.rfl, fun j hj => hz j (by omega), fun _ _ => rfl⟩
      rw [e]
      unfold g_X2_clear_32B
      rw [if_pos (kdb b143), if_pos (by omega)]
    | succ d ih =>
      intro k f Mx hk hf hz
      obtain ⟨f, rfl⟩ : ∃ g, f = g + 1 := ⟨f - 1, by omega⟩
      have e : g_X2_clear_32 (f + 1) 143 k Mx = g_X2_clear_32B (g_X2_clear_32 f) 143 k Mx := rfl
      rw [e]
      unfold g_X2_clear_32B
      rw [if_pos (kdb b143), if_neg (by omega), if_pos (by omega), Int.toNat_natCast, w32_id (by omega) (by omega)]
      obtain ⟨M', a1, a2, a3, a4⟩ := ih (k + 1) f (uI Mx (143 + 1) k 0) (by omega) (by omega) (fun j hj => by
        by_cases c : j = k
        · subst c; exact zI_at _ _ _ _
        · rw [zI_uI, if_neg (fun q => c q.2)]; exact hz j (by omega))
      exact ⟨M', a1, fun x hx => (sameH_uI (by omega)).trans (a2 x hx), a3, a4⟩
  obtain ⟨M0, e0⟩ : ∃ M0, uI (uI (uI (uI (uI (uI M 143 0 0) 143 1 0) 143 2 0) 143 3 0) 143 4 0) 143 5 0 = M0 := ⟨_, rfl⟩
  obtain ⟨M', a1, a2, a3, a4⟩ := lp 20 0 100000 M0 (by omega) (by omega) (fun j hj => absurd hj (by omega))
  refine ⟨M', ?_, fun x h1 h2 => ?_, fun k hk => ?_, a3, fun a k => ?_⟩
  · unfold g_X2_clear g_X2_clear_15 g_X2_clear_30
    rw [if_pos (kdb b143), if_pos (kdb b143), e0]
    exact a1
  · rw [← e0] at a2
    exact ((((((sameH_uI h1).trans (sameH_uI h1)).trans (sameH_uI h1)).trans (sameH_uI h1)).trans (sameH_uI h1)).trans (sameH_uI h1)).trans (a2 x h2)
  · rw [(a2 143 (by omega) k).1, ← e0]
    rcases (show k = 0 ∨ k = 1 ∨ k = 2 ∨ k = 3 ∨ k = 4 ∨ k = 5 by omega) with rfl | rfl | rfl | rfl | rfl | rfl <;> rfl
  · rw [a4, ← e0]; rfl
theorem SQ_clamp {pr r v : Nat} (h1 : r * r ≤ pr) (h2 : pr < (r + 1) * (r + 1)) (hv : v = if r < 38554 then 38554 else if 259374 < r then 259374 else r) : SQ pr v := by
  have i1 : ((r : Int)) * r ≤ pr := by rw [← Int.natCast_mul]; omega
  have i2 : (pr : Int) < ((r : Int) + 1) * ((r : Int) + 1) := by
    have : ((r : Int) + 1) * ((r : Int) + 1) = (((r + 1) * (r + 1) : Nat) : Int) := by rw [Int.natCast_mul]; rfl
    rw [this]; omega
  subst hv
  by_cases c1 : r < 38554
  · rw [if_pos c1]
    refine ⟨by omega, Or.inl rfl, Or.inr ?_⟩
    have := Int.mul_le_mul (a := (r : Int) + 1) (b := (r : Int) + 1) (c := 38555) (d := 38555) (by omega) (by omega) (by omega) (by omega)
    show (pr : Int) < (38554 + 1) * (38554 + 1)
    omega
  · rw [if_neg c1]
    by_cases c2 : 259374 < r
    · rw [if_pos c2]
      refine ⟨by omega, Or.inr ?_, Or.inl rfl⟩
      have := Int.mul_le_mul (a := 259374) (b := 259374) (c := (r : Int)) (d := (r : Int)) (by omega) (by omega) (by omega) (by omega)
      show (259374 : Int) * 259374 ≤ pr
      omega
    · rw [if_neg c2]
      exact ⟨by omega, Or.inr i1, Or.inr i2⟩
theorem R_pool1 {M : MZ} (K : KON M) {p : Nat} (hp : p < 5) {a b : Int} (ea : zI M 26 (7 * p + 5) = a) (eb : zI M 26 (7 * p + 6) = b) (ha : 1 ≤ a ∧ a ≤ 9999) (hb : 1 ≤ b ∧ b ≤ 9999) (k77 : Int → MZ → Option (Unit × MZ)) : ∃ (M' : MZ) (v : Int), g_X12_begins_87 k77 100000 p 0 M = k77 ((p + 1 : Nat) : Int) M' ∧ SQ (10000000000 * a / b) v ∧ (∀ x, x ≠ 22 → x ≠ 23 → sameH M M' x) ∧ (∀ k, zI M' 22 k = if 5 * p ≤ k ∧ k < 5 * p + 5 then zI M 26 (7 * p + (k - 5 * p)) else zI M 22 k) ∧ (∀ j, zL M' 23 j = if j = 22 + 23 * p + 6 then 1 else if j = 22 + 23 * p + 1 then zof v else if j = 22 + 23 * p then v else zL M 23 j) := by
  have lp : ∀ (d k f : Nat) (Mx : MZ), k + d = 5 → d < f → (∀ x, x ≠ 22 → sameH M Mx x) → (∀ j, zI Mx 22 j = if 5 * p ≤ j ∧ j < 5 * p + k then zI M 26 (7 * p + (j - 5 * p)) else zI M 22 j) → ∃ M' f', g_X12_begins_87 k77 f p k Mx = g_X12_begins_87 k77 (f' + 1) p 5 M' ∧ (∀ x, x ≠ 22 → sameH M M' x) ∧ (∀ j, zI M' 22 j = if 5 * p ≤ j ∧ j < 5 * p + 5 then zI M 26 (7 * p + (j - 5 * p)) else zI M 22 j) := by
    intro d
    induction d with
    | zero =>
      intro k f Mx hk hf h1 h2
      obtain ⟨f, rfl⟩ : ∃ g, f = g + 1 := ⟨f - 1, by omega⟩
      have : k = 5 := by omega
      subst this
      exact ⟨Mx, f, rfl, h1, h2⟩
    | succ d ih =>
      intro k f Mx hk hf h1 h2
      obtain ⟨f, rfl⟩ : ∃ g, f = g + 1 := ⟨f - 1, by omega⟩
      have e : g_X12_begins_87 k77 (f + 1) p k Mx = g_X12_begins_87B k77 (g_X12_begins_87 k77 f) p k Mx := rfl
      have e7 : w32 (w32 (7 * (p : Int)) + k) = ((7 * p + k : Nat) : Int) := by rw [w32_id (x := 7 * (p : Int)) (by omega) (by omega), w32_id (by omega) (by omega)]; omega
      have e5 : w32 (w32 (5 * (p : Int)) + k) = ((5 * p + k : Nat) : Int) := by rw [w32_id (x := 5 * (p : Int)) (by omega) (by omega), w32_id (by omega) (by omega)]; omega
      rw [e]
      unfold g_X12_begins_87B
      rw [if_neg (by omega), e7, e5, if_pos (by omega), if_pos (by omega), Int.toNat_natCast, Int.toNat_natCast, w32_id (x := (k : Int) + 1) (by omega) (by omega), (h1 26 (by omega) _).1]
      refine ih (k + 1) f _ (by omega) (by omega) (fun x hx => (h1 x hx).trans (sameH_uI hx)) (fun j => ?_)
      rw [zI_uI]
      by_cases c : j = 5 * p + k
      · subst c
        rw [if_pos ⟨rfl, rfl⟩, if_pos (by omega)]
        exact congrArg _ (by omega)
      · rw [if_neg (fun q => c q.2), h2 j]
        by_cases c2 : 5 * p ≤ j ∧ j < 5 * p + k
        · rw [if_pos c2, if_pos (by omega)]
        · rw [if_neg c2, if_neg (by omega)]
  obtain ⟨M1, f', a1, a2, a3⟩ := lp 5 0 100000 M (by omega) (by omega) (fun _ _ => sameH.rfl) (fun j => by rw [if_neg (by omega)])
  have d := fdiv_r (x := 10000000000 * a) (y := b) (by omega) (by omega)
  obtain ⟨pr, epr⟩ := zR_nat d.1
  obtain ⟨r, r1, r2, r3⟩ := R_rootN (pr := pr) (by omega) M1
  have e5 : w32 (w32 (7 * (p : Int)) + 5) = ((7 * p + 5 : Nat) : Int) := by rw [w32_id (x := 7 * (p : Int)) (by omega) (by omega), w32_id (by omega) (by omega)]; omega
  have e6 : w32 (w32 (7 * (p : Int)) + 6) = ((7 * p + 6 : Nat) : Int) := by rw [w32_id (x := 7 * (p : Int)) (by omega) (by omega), w32_id (by omega) (by omega)]; omega
  have k0 : zL M1 21 0 = 38554 := by
    rw [(a2 21 (by omega) 0).2.1, K.1 0 (by omega)]
    decide +kernel
  have k40 : zL M1 21 40 = 259374 := by
    rw [(a2 21 (by omega) 40).2.1, K.1 40 (by omega)]
    decide +kernel
  have K1 : KON M1 := K.mv (fun x hx => a2 x (by omega))
  obtain ⟨v, ev⟩ : ∃ v : Nat, v = if r < 38554 then 38554 else if 259374 < r then 259374 else r := ⟨_, rfl⟩
  have hsq := SQ_clamp r2 r3 ev
  have s1 := R_setPool (p := p) (w := 0) hp (by omega) (by omega) (v : Int) M1
  have K2 : KON (uL M1 23 (22 + 23 * p + (0 : Int).toNat) (v : Int)) := K1.f23 Fr23_u
  have s2 := R_setPool (p := p) (w := 1) hp (by omega) (by omega) (zof v) (uL M1 23 (22 + 23 * p + (0 : Int).toNat) (v : Int))
  have s3 := R_setPool (p := p) (w := 6) hp (by omega) (by omega) 1 (uL (uL M1 23 (22 + 23 * p + (0 : Int).toNat) (v : Int)) 23 (22 + 23 * p + (1 : Int).toNat) (zof v))
  refine ⟨uL (uL (uL M1 23 (22 + 23 * p + (0 : Int).toNat) (v : Int)) 23 (22 + 23 * p + (1 : Int).toNat) (zof v)) 23 (22 + 23 * p + (6 : Int).toNat) 1, v, ?_, by rw [epr]; exact hsq, ?_, ?_, ?_⟩
  · have fin : g_X12_begins_191 k77 p (v : Int) M1 = k77 ((p + 1 : Nat) : Int) (uL (uL (uL M1 23 (22 + 23 * p + (0 : Int).toNat) (v : Int)) 23 (22 + 23 * p + (1 : Int).toNat) (zof v)) 23 (22 + 23 * p + (6 : Int).toNat) 1) := by
      unfold g_X12_begins_191
      rw [s1]
      simp only [bindS]
      rw [R_zoneOf K2]
      simp only [bindS]
      rw [s2]
      simp only [bindS]
      rw [s3]
      simp only [bindS]
      rw [w32_id (by omega) (by omega)]
      rfl
    have h0 : g_X12_begins_87 k77 100000 p 0 M = g_X12_begins_87B k77 (g_X12_begins_87 k77 f') p 5 M1 := a1
    rw [h0, ← fin]
    unfold g_X12_begins_87B
    rw [if_pos (by omega), e5, e6, if_pos (by omega), if_pos (by omega), Int.toNat_natCast, Int.toNat_natCast, (a2 26 (by omega) _).1, (a2 26 (by omega) _).1, ea, eb, if_neg (by omega), w64_id (x := 10000000000 * a) (by omega) (by omega), Int.tdiv_eq_ediv_of_nonneg (by omega), w64_id (by omega) (by omega), epr, r1]
    simp only [bindS]
    unfold g_X12_begins_171
    rw [k0, k40]
    by_cases c1 : r < 38554
    · rw [if_neg (by omega), if_pos (by omega), ev, if_pos c1]
      rfl
    · rw [if_pos (by omega)]
      by_cases c2 : 259374 < r
      · rw [if_neg (by omega), ev, if_neg c1, if_pos c2]
        rfl
      · rw [if_pos (by omega), ev, if_neg c1, if_neg c2]
  · intro x h1 h2
    exact (((a2 x h1).trans (sameH_uL h2)).trans (sameH_uL h2)).trans (sameH_uL h2)
  · intro k
    exact a3 k
  · intro j
    rw [zL_uL, zL_uL, zL_uL, (a2 23 (by omega) j).2.1]
    show (if 23 = 23 ∧ j = 22 + 23 * p + 6 then (1 : Int) else if 23 = 23 ∧ j = 22 + 23 * p + 1 then zof v else if 23 = 23 ∧ j = 22 + 23 * p + 0 then (v : Int) else zL M 23 j) = _
    simp
