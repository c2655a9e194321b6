/-! the leaves of what the developers wrote -/
theorem K_isTick (p : Int) (M : MZ) : g_X11_isTick p M = some (bI (0 ≤ p ∧ p ≤ 40), M) := by
  unfold g_X11_isTick g_X11_isTick_14 g_X11_isTick_15 bI
  repeat' split
  all_goals first | rfl | omega
theorem K_isZone (p : Int) (M : MZ) : g_X11_isZone p M = some (bI (0 ≤ p ∧ p < 40), M) := by
  unfold g_X11_isZone g_X11_isZone_14 g_X11_isZone_15 bI
  repeat' split
  all_goals first | rfl | omega
theorem K_isSide (p : Int) (M : MZ) : g_X11_isSide p M = some (bI (p = 0 ∨ p = 1), M) := by
  unfold g_X11_isSide g_X11_isSide_9 g_X11_isSide_14 bI
  repeat' split
  all_goals first | rfl | omega
theorem K_isAmount (p : Int) (M : MZ) : g_X11_isAmount p M = some (bI (1 ≤ p ∧ p ≤ 9999999), M) := by
  unfold g_X11_isAmount g_X11_isAmount_16 g_X11_isAmount_17 bI
  repeat' split
  all_goals first | rfl | omega
theorem K_lastTick (p : Int) (M : MZ) : g_X11_lastTick p M = some (if p = 0 then 0 else 40, M) := by
  unfold g_X11_lastTick g_X11_lastTick_10
  repeat' split
  all_goals rfl
theorem K_rootAt {p : Int} (h1 : 0 ≤ p) (h2 : p ≤ 40) (M : MZ) : g_X0_rootAt p M = some (zroots p.toNat, M) := by
  unfold g_X0_rootAt g_X0_rootAt_9 g_X0_rootAt_36
  rw [if_pos h1, if_neg (by omega), if_pos (by omega)]
theorem K_hasThing {b : Nat} (hb : bOK b) (p : Int) (M : MZ) : g_X2_hasThing b p M = some (bI (0 ≤ p ∧ p < zI M b 0), M) := by
  unfold g_X2_hasThing g_X2_hasThing_16 g_X2_hasThing_17 bI
  rw [if_pos (kdb hb)]
  repeat' split
  all_goals first | rfl | omega
theorem K_hasPerson {b : Nat} (hb : bOK b) (p : Int) (M : MZ) : g_X2_hasPerson b p M = some (bI (0 ≤ p ∧ p < zI M b 1), M) := by
  unfold g_X2_hasPerson g_X2_hasPerson_16 g_X2_hasPerson_17 bI
  rw [if_pos (kdb hb)]
  repeat' split
  all_goals first | rfl | omega
theorem K_poolAt_y {b p : Nat} (hb : bOK b) (hp : p < 5) {M : MZ} (h : (p : Int) < zI M b 2) : g_X2_poolAt b p M = some (b + 2 + 2 + 5 * p, M) := by
  unfold g_X2_poolAt g_X2_poolAt_30 g_X2_poolAt_31
  rw [if_neg (by omega), if_pos (kdb hb), if_neg (by omega), if_neg (by omega), if_pos (by omega), Int.toNat_natCast]
theorem K_poolAt_n {b : Nat} (hb : bOK b) {p : Int} {M : MZ} (h : ¬ (0 ≤ p ∧ p < zI M b 2)) : g_X2_poolAt b p M = some (0, M) := by
  unfold g_X2_poolAt g_X2_poolAt_30 g_X2_poolAt_31
  rw [if_pos (kdb hb)]
  by_cases h0 : p < 0
  · rw [if_pos h0]
  · rw [if_neg h0, if_pos (by omega)]
theorem K_stakeAt_y {b i : Nat} (hb : bOK b) (hi : i < 12) {M : MZ} (h : (i : Int) < zI M b 3) : g_X2_stakeAt b i M = some (zR M (b + 3) i, M) := by
  unfold g_X2_stakeAt g_X2_stakeAt_30 g_X2_stakeAt_31
  rw [if_neg (by omega), if_pos (kdb hb), if_neg (by omega), if_neg (by omega), if_pos (by omega), Int.toNat_natCast]
theorem K_stakeAt_n {b : Nat} (hb : bOK b) {p : Int} {M : MZ} (h : ¬ (0 ≤ p ∧ p < zI M b 3)) : g_X2_stakeAt b p M = some (0, M) := by
  unfold g_X2_stakeAt g_X2_stakeAt_30 g_X2_stakeAt_31
  rw [if_pos (kdb hb)]
  by_cases h0 : p < 0
  · rw [if_pos h0]
  · rw [if_neg h0, if_pos (by omega)]
theorem K_purseOf {b p t : Nat} (hb : bOK b) (hp : p < 4) (ht : t < 5) (M : MZ) : g_X2_purseOf b p t M = some (zI M (b + 1) (5 * p + t), M) := by
  unfold g_X2_purseOf g_X2_purseOf_6 g_X2_purseOf_28 g_X2_purseOf_29
  rw [w32_id (x := (p : Int) * 5) (by omega) (by omega), w32_id (by omega) (by omega), if_neg (by omega), if_pos (kdb hb), if_neg (by omega), if_pos (by omega), show ((p : Int) * 5 + t).toNat = 5 * p + t by omega]
theorem K_putIntoPurse {b p t : Nat} (hb : bOK b) (hp : p < 4) (ht : t < 5) (v : Int) (M : MZ) : g_X2_putIntoPurse b p t v M = some ((), uI M (b + 1) (5 * p + t) (w32 (zI M (b + 1) (5 * p + t) + v))) := by
  unfold g_X2_putIntoPurse g_X2_putIntoPurse_7 g_X2_putIntoPurse_33
  rw [w32_id (x := (p : Int) * 5) (by omega) (by omega), w32_id (by omega) (by omega), if_neg (by omega), if_pos (kdb hb), if_neg (by omega), if_pos (by omega), if_pos (by omega), show ((p : Int) * 5 + t).toNat = 5 * p + t by omega]
theorem K_thingOn {b p : Nat} (hb : bOK b) (hp : p < 5) (k : Int) (M : MZ) : g_X4_thingOn (b + 2 + 2 + 5 * p) k M = some (zI M (b + 2 + 2 + 5 * p) (if k = 0 then 0 else 1), M) := by
  unfold g_X4_thingOn g_X4_thingOn_15
  rw [if_pos (kdp hb hp), if_pos (kdp hb hp)]
  split <;> rfl
theorem K_sideOf {b p : Nat} (hb : bOK b) (hp : p < 5) (k : Int) (M : MZ) : g_X4_sideOf (b + 2 + 2 + 5 * p) k M = some (if k = zI M (b + 2 + 2 + 5 * p) 0 then 0 else if k = zI M (b + 2 + 2 + 5 * p) 1 then 1 else -1, M) := by
  unfold g_X4_sideOf g_X4_sideOf_23
  rw [if_pos (kdp hb hp)]
  repeat' split
  all_goals rfl
section KREP
variable {M : MZ} {b : Nat} {k : Bool} {N T : Nat → Int} {L : List (Nat → Int)} {th pe po : Int}
theorem K_told (R : Rep k M b N T L th pe po) {p j : Nat} (hp : p < 5) (hq : (p : Int) < po) (hj : j < 5) : zI M (b + 2 + 2 + 5 * p) j = T (5 * p + j) := R.2.2.1 p hp hq j hj
theorem K_root (R : Rep k M b N T L th pe po) {p : Nat} (hp : p < 5) (hq : (p : Int) < po) : zI M (b + 2 + 2 + 5 * p) 5 = w32 (N (22 + 23 * p)) := R.2.2.2.1 p hp hq 0 (by omega) (Or.inl (by omega))
theorem K_zone (R : Rep k M b N T L th pe po) {p : Nat} (hp : p < 5) (hq : (p : Int) < po) : zI M (b + 2 + 2 + 5 * p) 6 = w32 (N (22 + 23 * p + 1)) := R.2.2.2.1 p hp hq 1 (by omega) (Or.inl (by omega))
theorem K_held (R : Rep k M b N T L th pe po) {p j : Nat} (hp : p < 5) (hq : (p : Int) < po) (hj : j < 2) : zI M (b + 2 + 2 + 5 * p + 1) j = w32 (N (22 + 23 * p + (2 + j))) := by
  have h := R.2.2.2.1 p hp hq (2 + j) (by omega) (Or.inl (by omega))
  have e1 : pad (2 + j) = 1 := by unfold pad; repeat' split
                                  all_goals omega
  have e2 : ppl (2 + j) = j := by unfold ppl; repeat' split
                                  all_goals omega
  rw [e1, e2] at h
  exact h
theorem K_house (R : Rep k M b N T L th pe po) {p j : Nat} (hp : p < 5) (hq : (p : Int) < po) (hj : j < 2) : zI M (b + 2 + 2 + 5 * p + 2) j = w32 (N (22 + 23 * p + (4 + j))) := by
  have h := R.2.2.2.1 p hp hq (4 + j) (by omega) (Or.inl (by omega))
  have e1 : pad (4 + j) = 2 := by unfold pad; repeat' split
                                  all_goals omega
  have e2 : ppl (4 + j) = j := by unfold ppl; repeat' split
                                  all_goals omega
  rw [e1, e2] at h
  exact h
theorem K_sI (R : Rep k M b N T L th pe po) {i w : Nat} (hi : i < L.length) (hw : w < 6) : zI M (zR M (b + 3) i) w = L.getD i d0 w := by
  have h := R.2.2.2.2.1 i hi w (by omega)
  unfold zS at h
  rw [if_pos hw] at h
  exact h
theorem K_sG (R : Rep k M b N T L th pe po) {i w : Nat} (hi : i < L.length) (hw : w < 2) : zL M (zR M (b + 3) i + 1) w = L.getD i d0 (6 + w) := by
  have h := R.2.2.2.2.1 i hi (6 + w) (by omega)
  unfold zS at h
  rw [if_neg (by omega), if_pos (by omega), show 6 + w - 6 = w by omega] at h
  exact h
theorem K_sD (R : Rep k M b N T L th pe po) {i w : Nat} (hi : i < L.length) (hw : w < 2) : zL M (zR M (b + 3) i + 2) w = L.getD i d0 (8 + w) := by
  have h := R.2.2.2.2.1 i hi (8 + w) (by omega)
  unfold zS at h
  rw [if_neg (by omega), if_neg (by omega), show 8 + w - 8 = w by omega] at h
  exact h
theorem K_liq_loop (hb : bOK b) (R : Rep k M b N T L th pe po) (hL : Lok pe po L) (p z : Int) : ∀ (n i f : Nat), i + n = L.length → n < f → g_X2_liquidityAt_5 f b p z (sumL (dpf p z) (L.take i)) i M = some (dep L p z, M) := by
  have h12 := R.2.2.2.2.2.2
  have h3 := R.1.2.2.2.1
  intro n
  induction n with
  | zero =>
    intro i f hi hf
    obtain ⟨f, rfl⟩ : ∃ g, f = g + 1 := ⟨f - 1, by omega⟩
    unfold g_X2_liquidityAt_5 g_X2_liquidityAt_5B g_X2_liquidityAt_75
    rw [if_pos (kdb hb), if_pos (by omega)]
    unfold dep
    rw [show i = L.length by omega, List.take_length]
  | succ n ih =>
    intro i f hi hf
    obtain ⟨f, rfl⟩ : ∃ g, f = g + 1 := ⟨f - 1, by omega⟩
    have hl : i < L.length := by omega
    have hr := dep_take_r hL p z (i + 1) (by omega)
    have e := sumL_take (dpf p z) hl
    have e2 := ih (i + 1) f (by omega) (by omega)
    unfold g_X2_liquidityAt_5 g_X2_liquidityAt_5B g_X2_liquidityAt_33 g_X2_liquidityAt_69
    rw [if_pos (kdb hb), if_neg (by omega), if_neg (by omega), if_pos (by omega), Int.toNat_natCast, if_pos (R.2.2.2.2.2.1.kd hb (by omega)), K_sI R hl (w := 1) (by omega), K_sI R hl (w := 2) (by omega), K_sI R hl (w := 3) (by omega), K_sI R hl (w := 5) (by omega), w32_id (x := (i : Int) + 1) (by omega) (by omega)]
    rw [e] at hr
    by_cases hc : L.getD i d0 1 = p ∧ L.getD i d0 2 ≤ z ∧ z < L.getD i d0 3
    · have ed : dpf p z (L.getD i d0) = L.getD i d0 5 := if_pos hc
      rw [ed] at e hr
      rw [if_pos hc.1, if_neg (by omega), if_neg (by omega), w64_id (by omega) (by omega), ← e]
      exact e2
    · have ed : dpf p z (L.getD i d0) = 0 := if_neg hc
      rw [ed, Int.add_zero] at e
      rw [← e]
      repeat' split
      all_goals first | exact e2 | omega
theorem K_liq (hb : bOK b) (R : Rep k M b N T L th pe po) (hL : Lok pe po L) (p z : Int) : g_X2_liquidityAt b p z M = some (dep L p z, M) := by
  have h12 := R.2.2.2.2.2.2
  exact K_liq_loop hb R hL p z L.length 0 100000 (by omega) (by omega)
end KREP
