/-! what the reference keeps and lays back -/
theorem R_keep_loop {lv : Nat} (hlv : lv < 2) {M0 : MZ} : ∀ (n i f : Nat), i + n = 258 → n < f → ∀ M : MZ, (∀ x, x ≠ 24 → sameH M0 M x) → (∀ k, zL M 24 k = if 258 * lv ≤ k ∧ k < 258 * lv + i then zL M0 23 (k - 258 * lv) else zL M0 24 k) → ∃ M', g_X12_keeps_2 f lv i M = some ((), M') ∧ (∀ x, x ≠ 24 → sameH M0 M' x) ∧ (∀ k, zL M' 24 k = if 258 * lv ≤ k ∧ k < 258 * lv + 258 then zL M0 23 (k - 258 * lv) else zL M0 24 k) := by
  intro n
  induction n with
  | zero =>
    intro i f hi hf M hs hz
    obtain ⟨f, rfl⟩ : ∃ g, f = g + 1 := ⟨f - 1, by omega⟩
    have e : g_X12_keeps_2 (f + 1) lv i M = g_X12_keeps_2B (g_X12_keeps_2 f) lv i M := rfl
    refine ⟨M, ?_, hs, ?_⟩
    · rw [e]
      unfold g_X12_keeps_2B
      rw [if_pos (by omega)]
    · have : i = 258 := by omega
      subst this
      exact hz
  | succ n ih =>
    intro i f hi hf M hs hz
    obtain ⟨f, rfl⟩ : ∃ g, f = g + 1 := ⟨f - 1, by omega⟩
    have e : g_X12_keeps_2 (f + 1) lv i M = g_X12_keeps_2B (g_X12_keeps_2 f) lv i M := rfl
    have hstep : g_X12_keeps_2B (g_X12_keeps_2 f) lv i M = g_X12_keeps_2 f lv ((i + 1 : Nat) : Int) (uL M 24 (258 * lv + i) (zL M0 23 i)) := by
      unfold g_X12_keeps_2B
      rw [if_neg (by omega), if_pos (by omega), w32_id (x := 258 * (lv : Int)) (by omega) (by omega), w32_id (x := 258 * (lv : Int) + i) (by omega) (by omega), if_pos (by omega), w32_id (x := (i : Int) + 1) (by omega) (by omega), show (258 * (lv : Int) + i).toNat = 258 * lv + i by omega, Int.toNat_natCast, (hs 23 (by omega) i).2.1, show (i : Int) + 1 = ((i + 1 : Nat) : Int) by omega]
    rw [e, hstep]
    refine ih (i + 1) f (by omega) (by omega) _ (fun x hx => (hs x hx).trans (sameH_uL hx)) (fun k => ?_)
    rw [zL_uL]
    by_cases c : k = 258 * lv + i
    · rw [if_pos ⟨rfl, c⟩, if_pos (by omega), show k - 258 * lv = i by omega]
    · rw [if_neg (fun q => c q.2), hz k]
      by_cases c2 : 258 * lv ≤ k ∧ k < 258 * lv + i
      · rw [if_pos c2, if_pos (by omega)]
      · rw [if_neg c2, if_neg (by omega)]
theorem R_keeps {lv : Nat} (hlv : lv < 2) (M : MZ) : ∃ M', g_X12_keeps lv M = some ((), M') ∧ (∀ x, x ≠ 24 → sameH M M' x) ∧ (∀ k, zL M' 24 k = if 258 * lv ≤ k ∧ k < 258 * lv + 258 then zL M 23 (k - 258 * lv) else zL M 24 k) :=
  R_keep_loop hlv 258 0 100000 (by omega) (by omega) M (fun _ _ => sameH.rfl) (fun k => by rw [if_neg (by omega)])
theorem R_back_loop {lv : Nat} (hlv : lv < 2) {M0 : MZ} : ∀ (n i f : Nat), i + n = 258 → n < f → ∀ M : MZ, (∀ x, x ≠ 23 → sameH M0 M x) → (∀ k, zL M 23 k = if k < i then zL M0 24 (258 * lv + k) else zL M0 23 k) → ∃ M', g_X12_laysBack_2 f lv i M = some ((), M') ∧ (∀ x, x ≠ 23 → sameH M0 M' x) ∧ (∀ k, zL M' 23 k = if k < 258 then zL M0 24 (258 * lv + k) else zL M0 23 k) := by
  intro n
  induction n with
  | zero =>
    intro i f hi hf M hs hz
    obtain ⟨f, rfl⟩ : ∃ g, f = g + 1 := ⟨f - 1, by omega⟩
    have e : g_X12_laysBack_2 (f + 1) lv i M = g_X12_laysBack_2B (g_X12_laysBack_2 f) lv i M := rfl
    refine ⟨M, ?_, hs, ?_⟩
    · rw [e]
      unfold g_X12_laysBack_2B
      rw [if_pos (by omega)]
    · have : i = 258 := by omega
      subst this
      exact hz
  | succ n ih =>
    intro i f hi hf M hs hz
    obtain ⟨f, rfl⟩ : ∃ g, f = g + 1 := ⟨f - 1, by omega⟩
    have e : g_X12_laysBack_2 (f + 1) lv i M = g_X12_laysBack_2B (g_X12_laysBack_2 f) lv i M := rfl
    have hstep : g_X12_laysBack_2B (g_X12_laysBack_2 f) lv i M = g_X12_laysBack_2 f lv ((i + 1 : Nat) : Int) (uL M 23 i (zL M0 24 (258 * lv + i))) := by
      unfold g_X12_laysBack_2B
      rw [if_neg (by omega), w32_id (x := 258 * (lv : Int)) (by omega) (by omega), w32_id (x := 258 * (lv : Int) + i) (by omega) (by omega), if_pos (by omega), if_pos (by omega), w32_id (x := (i : Int) + 1) (by omega) (by omega), show (258 * (lv : Int) + i).toNat = 258 * lv + i by omega, Int.toNat_natCast, (hs 24 (by omega) _).2.1, show (i : Int) + 1 = ((i + 1 : Nat) : Int) by omega]
    rw [e, hstep]
    refine ih (i + 1) f (by omega) (by omega) _ (fun x hx => (hs x hx).trans (sameH_uL hx)) (fun k => ?_)
    rw [zL_uL]
    by_cases c : k = i
    · rw [if_pos ⟨rfl, c⟩, if_pos (by omega), c]
    · rw [if_neg (fun q => c q.2), hz k]
      by_cases c2 : k < i
      · rw [if_pos c2, if_pos (by omega)]
      · rw [if_neg c2, if_neg (by omega)]
theorem R_laysBack {lv : Nat} (hlv : lv < 2) (M : MZ) : ∃ M', g_X12_laysBack lv M = some ((), M') ∧ (∀ x, x ≠ 23 → sameH M M' x) ∧ (∀ k, zL M' 23 k = if k < 258 then zL M 24 (258 * lv + k) else zL M 23 k) :=
  R_back_loop hlv 258 0 100000 (by omega) (by omega) M (fun _ _ => sameH.rfl) (fun k => by rw [if_neg (by omega)])
/-- kept, tried, laid back: the market is as it was -/
theorem RepR.back {M M1 M2 M3 : MZ} {N T : Nat → Int} {L : List (Nat → Int)} {th pe po : Int} {lv : Nat} (R : RepR M N T L th pe po) (k1 : ∀ x, x ≠ 24 → sameH M M1 x) (k2 : ∀ k, zL M1 24 k = if 258 * lv ≤ k ∧ k < 258 * lv + 258 then zL M 23 (k - 258 * lv) else zL M 24 k) (s0 : ∀ k, k < 4 → zI M2 20 k = zI M1 20 k) (s1 : sameH M1 M2 22) (s2 : ∀ k, 258 * lv ≤ k → k < 258 * lv + 258 → zL M2 24 k = zL M1 24 k) (b1 : ∀ x, x ≠ 23 → sameH M2 M3 x) (b2 : ∀ k, zL M3 23 k = if k < 258 then zL M2 24 (258 * lv + k) else zL M2 23 k) : RepR M3 N T L th pe po := by
  obtain ⟨⟨a0, a1, a2⟩, hT, hN, hn, hL, h12⟩ := R
  have hz : ∀ k, k < 258 → zL M3 23 k = zL M 23 k := by
    intro k hk
    rw [b2, if_pos hk, s2 _ (by omega) (by omega), k2, if_pos (by omega), show 258 * lv + k - 258 * lv = k by omega]
  have hi : ∀ k, k < 4 → zI M3 20 k = zI M 20 k := by
    intro k hk
    rw [(b1 20 (by omega) k).1, s0 k hk, (k1 20 (by omega) k).1]
  refine ⟨⟨by rw [hi 1 (by omega)]; exact a0, by rw [hi 2 (by omega)]; exact a1, by rw [hi 3 (by omega)]; exact a2⟩, fun j hj => ?_, fun j hj => by rw [hz j (by omega)]; exact hN j hj, by rw [hz 137 (by omega)]; exact hn, fun i hi' w hw => by rw [hz _ (by omega)]; exact hL i hi' w hw, h12⟩
  rw [(b1 22 (by omega) j).1, (s1 j).1, (k1 22 (by omega) j).1]
  exact hT j hj
