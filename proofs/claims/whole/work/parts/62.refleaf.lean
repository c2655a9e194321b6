/-! the reference's leaves -/
theorem R_isIn (v lo hi : Int) (M : MZ) : g_X12_isIn v lo hi M = some (bI (lo ≤ v ∧ v ≤ hi), M) := by
  unfold g_X12_isIn g_X12_isIn_17 g_X12_isIn_18 bI
  repeat' split
  all_goals first | rfl | omega
theorem R_isPool (p : Int) (M : MZ) : g_X12_isPool p M = some (bI (0 ≤ p ∧ p < zI M 20 3), M) := by
  unfold g_X12_isPool g_X12_isPool_16 g_X12_isPool_17 bI
  repeat' split
  all_goals first | rfl | omega
theorem R_isPerson (p : Int) (M : MZ) : g_X12_isPerson p M = some (bI (0 ≤ p ∧ p < zI M 20 2), M) := by
  unfold g_X12_isPerson g_X12_isPerson_16 g_X12_isPerson_17 bI
  repeat' split
  all_goals first | rfl | omega
theorem R_isThing (p : Int) (M : MZ) : g_X12_isThing p M = some (bI (0 ≤ p ∧ p < zI M 20 1), M) := by
  unfold g_X12_isThing g_X12_isThing_16 g_X12_isThing_17 bI
  repeat' split
  all_goals first | rfl | omega
theorem R_isSide (p : Int) (M : MZ) : g_X12_isSide p M = some (bI (p = 0 ∨ p = 1), M) := by
  unfold g_X12_isSide g_X12_isSide_9 g_X12_isSide_14 bI
  repeat' split
  all_goals first | rfl | omega
theorem R_endOf (p : Int) (M : MZ) : g_X12_endOf p M = some (if p = 0 then 0 else 40, M) := by
  unfold g_X12_endOf g_X12_endOf_10
  repeat' split
  all_goals rfl
theorem ixP {p w : Int} (hp : 0 ≤ p ∧ p < 5) (hw : 0 ≤ w ∧ w < 23) : w32 (w32 (22 + w32 (23 * p)) + w) = 22 + 23 * p + w := by
  rw [w32_id (x := 23 * p) (by omega) (by omega), w32_id (x := 22 + 23 * p) (by omega) (by omega), w32_id (by omega) (by omega)]
theorem ixS {p w : Int} (hp : 0 ≤ p ∧ p < 12) (hw : 0 ≤ w ∧ w < 10) : w32 (w32 (138 + w32 (10 * p)) + w) = 138 + 10 * p + w := by
  rw [w32_id (x := 10 * p) (by omega) (by omega), w32_id (x := 138 + 10 * p) (by omega) (by omega), w32_id (by omega) (by omega)]
theorem ixU {p w : Int} (hp : 0 ≤ p ∧ p < 4) (hw : 0 ≤ w ∧ w < 5) : w32 (w32 (2 + w32 (5 * p)) + w) = 2 + 5 * p + w := by
  rw [w32_id (x := 5 * p) (by omega) (by omega), w32_id (x := 2 + 5 * p) (by omega) (by omega), w32_id (by omega) (by omega)]
theorem ixT {p w : Int} (hp : 0 ≤ p ∧ p < 5) (hw : 0 ≤ w ∧ w < 5) : w32 (w32 (5 * p) + w) = 5 * p + w := by
  rw [w32_id (x := 5 * p) (by omega) (by omega), w32_id (by omega) (by omega)]
theorem R_ofPool {p : Nat} {w : Int} (hp : p < 5) (h1 : 0 ≤ w) (h2 : w < 23) (M : MZ) : g_X12_ofPool p w M = some (zL M 23 (22 + 23 * p + w.toNat), M) := by
  unfold g_X12_ofPool
  rw [ixP (by omega) (by omega), if_pos (by omega), show (22 + 23 * (p : Int) + w).toNat = 22 + 23 * p + w.toNat by omega]
theorem R_setPool {p : Nat} {w : Int} (hp : p < 5) (h1 : 0 ≤ w) (h2 : w < 23) (v : Int) (M : MZ) : g_X12_setPool p w v M = some ((), uL M 23 (22 + 23 * p + w.toNat) v) := by
  unfold g_X12_setPool
  rw [ixP (by omega) (by omega), if_pos (by omega), show (22 + 23 * (p : Int) + w).toNat = 22 + 23 * p + w.toNat by omega]
theorem R_morePool {p : Nat} {w : Int} (hp : p < 5) (h1 : 0 ≤ w) (h2 : w < 23) (v : Int) (M : MZ) : g_X12_morePool p w v M = some ((), uL M 23 (22 + 23 * p + w.toNat) (w64 (zL M 23 (22 + 23 * p + w.toNat) + v))) := by
  unfold g_X12_morePool
  rw [ixP (by omega) (by omega), if_pos (by omega), if_pos (by omega), show (22 + 23 * (p : Int) + w).toNat = 22 + 23 * p + w.toNat by omega]
theorem R_ofStake {i : Nat} {w : Int} (hp : i < 12) (h1 : 0 ≤ w) (h2 : w < 10) (M : MZ) : g_X12_ofStake i w M = some (zL M 23 (138 + 10 * i + w.toNat), M) := by
  unfold g_X12_ofStake
  rw [ixS (by omega) (by omega), if_pos (by omega), show (138 + 10 * (i : Int) + w).toNat = 138 + 10 * i + w.toNat by omega]
theorem R_setStake {i : Nat} {w : Int} (hp : i < 12) (h1 : 0 ≤ w) (h2 : w < 10) (v : Int) (M : MZ) : g_X12_setStake i w v M = some ((), uL M 23 (138 + 10 * i + w.toNat) v) := by
  unfold g_X12_setStake
  rw [ixS (by omega) (by omega), if_pos (by omega), show (138 + 10 * (i : Int) + w).toNat = 138 + 10 * i + w.toNat by omega]
theorem R_thingOf {p : Nat} {w : Int} (hp : p < 5) (h1 : 0 ≤ w) (h2 : w < 5) (M : MZ) : g_X12_thingOf p w M = some (zI M 22 (5 * p + w.toNat), M) := by
  unfold g_X12_thingOf
  rw [ixT (by omega) (by omega), if_pos (by omega), show (5 * (p : Int) + w).toNat = 5 * p + w.toNat by omega]
theorem R_feeOf {p : Nat} (hp : p < 5) (M : MZ) : g_X12_feeOf p M = some (zI M 22 (5 * p + 2), M) := by
  unfold g_X12_feeOf
  rw [ixT (by omega) (by omega), if_pos (by omega), show (5 * (p : Int) + 2).toNat = 5 * p + 2 by omega]
theorem R_inPurse {p t : Nat} (hp : p < 4) (ht : t < 5) (M : MZ) : g_X12_inPurse p t M = some (zL M 23 (2 + (5 * p + t)), M) := by
  unfold g_X12_inPurse
  rw [ixU (by omega) (by omega), if_pos (by omega), show (2 + 5 * (p : Int) + t).toNat = 2 + (5 * p + t) by omega]
theorem R_morePurse {p t : Nat} (hp : p < 4) (ht : t < 5) (v : Int) (M : MZ) : g_X12_morePurse p t v M = some ((), uL M 23 (2 + (5 * p + t)) (w64 (zL M 23 (2 + (5 * p + t)) + v))) := by
  unfold g_X12_morePurse
  rw [ixU (by omega) (by omega), if_pos (by omega), if_pos (by omega), show (2 + 5 * (p : Int) + t).toNat = 2 + (5 * p + t) by omega]
section RREP
variable {M : MZ} {N T : Nat → Int} {L : List (Nat → Int)} {th pe po : Int}
theorem R_stakes (R : RepR M N T L th pe po) : g_X12_stakes M = some ((L.length : Int), M) := by
  unfold g_X12_stakes
  have h12 := R.2.2.2.2.2
  rw [R.2.2.2.1, w32_id (by omega) (by omega)]
theorem R_isStake (R : RepR M N T L th pe po) (p : Int) : g_X12_isStake p M = some (bI (0 ≤ p ∧ p < L.length), M) := by
  unfold g_X12_isStake g_X12_isStake_16 g_X12_isStake_17 bI
  rw [R_stakes R]
  dsimp only [bindD]
  repeat' split
  all_goals first | rfl | omega
theorem R_pc (R : RepR M N T L th pe po) {p w : Nat} (hp : p < 5) (hw : w < 23) : zL M 23 (22 + 23 * p + w) = N (22 + 23 * p + w) := R.2.2.1 _ (by omega)
theorem R_sc (R : RepR M N T L th pe po) {i w : Nat} (hi : i < L.length) (hw : w < 10) : zL M 23 (138 + 10 * i + w) = L.getD i d0 w := R.2.2.2.2.1 i hi w hw
theorem R_pool (R : RepR M N T L th pe po) {p : Nat} {w : Int} (hp : p < 5) (h1 : 0 ≤ w) (h2 : w < 23) : g_X12_ofPool p w M = some (N (22 + 23 * p + w.toNat), M) := by
  rw [R_ofPool hp h1 h2, R_pc R hp (by omega)]
theorem R_stk (R : RepR M N T L th pe po) {i : Nat} {w : Int} (hi : i < L.length) (h1 : 0 ≤ w) (h2 : w < 10) : g_X12_ofStake i w M = some (L.getD i d0 w.toNat, M) := by
  have h12 := R.2.2.2.2.2
  rw [R_ofStake (by omega) h1 h2, R_sc R hi (by omega)]
theorem R_zone (R : RepR M N T L th pe po) {p : Nat} (hp : p < 5) (hz : 0 ≤ N (22 + 23 * p + 1) ∧ N (22 + 23 * p + 1) < 40) : g_X12_zoneNow p M = some (N (22 + 23 * p + 1), M) := by
  unfold g_X12_zoneNow
  rw [R_pool R hp (by omega) (by omega)]
  simp only [bindS]
  rw [show (1 : Int).toNat = 1 from rfl, w32_id (by omega) (by omega)]
theorem R_across (R : RepR M N T L th pe po) {i : Nat} (hi : i < L.length) (p z : Int) : g_X12_isAcross i p z M = some (bI (L.getD i d0 1 = p ∧ L.getD i d0 2 ≤ z ∧ z < L.getD i d0 3), M) := by
  unfold g_X12_isAcross g_X12_isAcross_40 g_X12_isAcross_41 bI
  rw [R_stk R hi (w := 1) (by omega) (by omega)]
  dsimp only [bindD]
  rw [R_stk R hi (w := 2) (by omega) (by omega)]
  dsimp only [bindD]
  rw [R_stk R hi (w := 3) (by omega) (by omega)]
  dsimp only [bindD]
  rw [show (1 : Int).toNat = 1 from rfl, show (2 : Int).toNat = 2 from rfl, show (3 : Int).toNat = 3 from rfl]
  repeat' split
  all_goals first | rfl | omega
theorem R_depthOf_loop (R : RepR M N T L th pe po) (hL : Lok pe po L) (p z : Int) : ∀ (k i f : Nat), i + k = L.length → k < f → g_X12_depthOf_5 f p z (sumL (dpf p z) (L.take i)) i M = some (dep L p z, M) := by
  have h12 := R.2.2.2.2.2
  intro k
  induction k with
  | zero =>
    intro i f hi hf
    obtain ⟨f, rfl⟩ : ∃ g, f = g + 1 := ⟨f - 1, by omega⟩
    unfold g_X12_depthOf_5 g_X12_depthOf_5B
    rw [R_stakes R]
    simp only [bindS]
    rw [if_pos (by omega)]
    unfold dep
    rw [show i = L.length by omega, List.take_length]
  | succ k ih =>
    intro i f hi hf
    obtain ⟨f, rfl⟩ : ∃ g, f = g + 1 := ⟨f - 1, by omega⟩
    have hl : i < L.length := by omega
    have hr := dep_take_r hL p z (i + 1) (by omega)
    have e := sumL_take (dpf p z) hl
    have e2 := ih (i + 1) f (by omega) (by omega)
    unfold g_X12_depthOf_5 g_X12_depthOf_5B g_X12_depthOf_37 g_X12_depthOf_39
    simp only [R_stakes R, R_across R hl, R_stk R hl (w := 5) (by omega) (by omega), bindS, bI_0]
    rw [if_neg (by omega), w32_id (x := (i : Int) + 1) (by omega) (by omega)]
    rw [show (5 : Int).toNat = 5 from rfl]
    rw [e] at hr
    by_cases hc : L.getD i d0 1 = p ∧ L.getD i d0 2 ≤ z ∧ z < L.getD i d0 3
    · have ed : dpf p z (L.getD i d0) = L.getD i d0 5 := if_pos hc
      rw [ed] at e hr
      rw [if_neg (fun q => q hc), w64_id (by omega) (by omega), ← e]
      exact e2
    · have ed : dpf p z (L.getD i d0) = 0 := if_neg hc
      rw [ed] at e hr
      rw [if_pos hc, w64_id (by omega) (by omega), ← e]
      exact e2
theorem R_depthOf (R : RepR M N T L th pe po) (hL : Lok pe po L) (p z : Int) : g_X12_depthOf p z M = some (dep L p z, M) := by
  have h12 := R.2.2.2.2.2
  exact R_depthOf_loop R hL p z L.length 0 100000 (by omega) (by omega)
end RREP
