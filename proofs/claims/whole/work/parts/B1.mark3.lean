/-! marks stay in order -/
section MO
variable {N T : Nat → Int} {L : List (Nat → Int)} {th pe po : Int}
theorem mix_top {N : Nat → Int} {p : Nat} {t : Int} (i : Nat) (h : mkt N p i ≤ t) : mix N p t i = i := by
  cases i with
  | zero => rfl
  | succ i =>
    unfold mix
    rw [if_pos h]
theorem Mrk.add {p : Nat} {t v : Int} (m : Mrk N p) {c : Nat} (ec : N (22 + 23 * p + 6) = (c : Int) + 1) (h7 : c ≤ 6) (h1 : mkt N p c < t) (h2 : t ≤ N 0) (h3 : mks N p c ≤ v) (h4 : v ≤ mks N p c + 39 * (t - mkt N p c)) : Mrk (mkW N p t v) p := by
  have ew : mkW N p t v = ud (ud (ud N (22 + 23 * p + (7 + 2 * (c + 1))) t) (22 + 23 * p + (8 + 2 * (c + 1))) v) (22 + 23 * p + 6) ((c : Int) + 1 + 1) := by
    unfold mkW
    rw [ec, show ((c : Int) + 1).toNat = c + 1 by omega]
  obtain ⟨m1, m2, m3, m4⟩ := m
  have o : ∀ j, j ≠ 22 + 23 * p + (7 + 2 * (c + 1)) → j ≠ 22 + 23 * p + (8 + 2 * (c + 1)) → j ≠ 22 + 23 * p + 6 → mkW N p t v j = N j := fun j a1 a2 a3 => by rw [ew, ud_ne a3, ud_ne a2, ud_ne a1]
  have o6 : mkW N p t v (22 + 23 * p + 6) = (c : Int) + 1 + 1 := by rw [ew, ud_at]
  have ot : mkW N p t v (22 + 23 * p + (7 + 2 * (c + 1))) = t := by rw [ew, ud_ne (by omega), ud_ne (by omega), ud_at]
  have os : mkW N p t v (22 + 23 * p + (8 + 2 * (c + 1))) = v := by rw [ew, ud_ne (by omega), ud_at]
  unfold mkt at h1 h4
  unfold mks at h3 h4
  refine ⟨by omega, ?_, fun i hi => ?_, fun i hi => ?_⟩
  · rw [o _ (by omega) (by omega) (by omega), o _ (by omega) (by omega) (by omega)]
    exact m2
  · rw [o6] at hi
    by_cases e : i = c
    · subst e
      rw [ot, os, o _ (by omega) (by omega) (by omega), o _ (by omega) (by omega) (by omega)]
      exact ⟨h1, h3, h4⟩
    · rw [o _ (by omega) (by omega) (by omega), o _ (by omega) (by omega) (by omega), o _ (by omega) (by omega) (by omega), o _ (by omega) (by omega) (by omega)]
      exact m3 i (by omega)
  · rw [o6] at hi
    rw [o 0 (by omega) (by omega) (by omega)]
    by_cases e : i = c + 1
    · subst e
      rw [ot]
      exact h2
    · rw [o _ (by omega) (by omega) (by omega)]
      exact m4 i (by omega)
theorem Mrk.sh {p : Nat} (m : Mrk N p) (h8 : N (22 + 23 * p + 6) = 8) : Mrk (mkB N p) p := by
  have b6 : mkB N p (22 + 23 * p + 6) = 7 := by unfold mkB; rw [if_neg (by omega), if_pos rfl]
  have b0 : mkB N p 0 = N 0 := by unfold mkB; rw [if_neg (by omega), if_neg (by omega)]
  have bm : ∀ i : Nat, i < 7 → mkB N p (22 + 23 * p + (7 + 2 * i)) = N (22 + 23 * p + (7 + 2 * (i + 1))) ∧ mkB N p (22 + 23 * p + (8 + 2 * i)) = N (22 + 23 * p + (8 + 2 * (i + 1))) := fun i hi => by
    unfold mkB
    rw [if_pos (by omega), if_pos (by omega)]
    exact ⟨congrArg N (by omega), congrArg N (by omega)⟩
  have hb := m.bd 1 (by omega)
  obtain ⟨m1, m2, m3, m4⟩ := m
  refine ⟨by omega, ?_, fun i hi => ?_, fun i hi => ?_⟩
  · have q := bm 0 (by omega)
    unfold mkt mks at hb
    rw [show 22 + 23 * p + 7 = 22 + 23 * p + (7 + 2 * 0) from rfl, show 22 + 23 * p + 8 = 22 + 23 * p + (8 + 2 * 0) from rfl, q.1, q.2]
    exact hb
  · rw [b6] at hi
    have q := bm i (by omega)
    have q1 := bm (i + 1) (by omega)
    rw [q.1, q.2, q1.1, q1.2]
    exact m3 (i + 1) (by omega)
  · rw [b6] at hi
    rw [(bm i (by omega)).1, b0]
    exact m4 (i + 1) (by omega)
theorem mkB_m {p i : Nat} (hi : i < 7) : mkt (mkB N p) p i = mkt N p (i + 1) ∧ mks (mkB N p) p i = mks N p (i + 1) := by
  unfold mkt mks mkB
  rw [if_pos (by omega), if_pos (by omega)]
  exact ⟨congrArg N (by omega), congrArg N (by omega)⟩
theorem Mrk.now {p : Nat} (m : Mrk N p) (hz : 0 ≤ N (22 + 23 * p + 1) ∧ N (22 + 23 * p + 1) < 40) : Mrk (mkN N p) p := by
  have hc := m.1
  obtain ⟨c, ec⟩ := zR_nat (p := N (22 + 23 * p + 6) - 1) (by omega)
  have c7 : c ≤ 7 := by omega
  have hle : mkt N p c ≤ N 0 := m.2.2.2 c (by omega)
  have eN : mkN N p = if mkt N p c = N 0 then N else mkW (mkC N p) p (N 0) (sAt N p (N 0)) := by
    unfold mkN
    rw [ec, Int.toNat_natCast]
  rw [eN]
  by_cases cd : mkt N p c = N 0
  · rw [if_pos cd]
    exact m
  · rw [if_neg cd]
    have es : sAt N p (N 0) = mks N p c + mzz N p c * (N 0 - mkt N p c) := by
      unfold sAt
      rw [ec, Int.toNat_natCast, mix_top c hle]
      rfl
    have hzz := m.z hz c
    have h3 := mulr (a := mzz N p c) (b := N 0 - mkt N p c) (A := 39) (B := N 0 - mkt N p c) hzz.1 hzz.2 (by omega) (Int.le_refl _)
    by_cases c8 : N (22 + 23 * p + 6) = 8
    · have e1 : mkC N p = mkB N p := by unfold mkC; rw [if_pos c8]
      have e7 : c = 6 + 1 := by omega
      have q := mkB_m (N := N) (p := p) (i := 6) (by omega)
      have b6 : mkB N p (22 + 23 * p + 6) = 7 := by unfold mkB; rw [if_neg (by omega), if_pos rfl]
      have b0 : mkB N p 0 = N 0 := by unfold mkB; rw [if_neg (by omega), if_neg (by omega)]
      rw [← e7] at q
      rw [e1]
      exact (m.sh c8).add (c := 6) (by omega) (by omega) (by rw [q.1]; omega) (by rw [b0]; omega) (by rw [q.2, es]; omega) (by rw [q.1, q.2, es]; omega)
    · have e1 : mkC N p = N := by unfold mkC; rw [if_neg c8]
      rw [e1]
      exact m.add (c := c) (by omega) (by omega) (by omega) (by omega) (by rw [es]; omega) (by rw [es]; omega)
/-- a mark touches marks alone -/
theorem mkN_at {p : Nat} (m : Mrk N p) {j : Nat} (hj : ¬ (22 + 23 * p + 6 ≤ j ∧ j < 22 + 23 * p + 23)) : mkN N p j = N j := by
  have hc := m.1
  have eC : ∀ j, ¬ (22 + 23 * p + 6 ≤ j ∧ j < 22 + 23 * p + 23) → mkC N p j = N j := fun j hj => by
    unfold mkC
    split
    · unfold mkB
      rw [if_neg (by omega), if_neg (by omega)]
    · rfl
  have e6 : 0 ≤ mkC N p (22 + 23 * p + 6) ∧ mkC N p (22 + 23 * p + 6) ≤ 7 := by
    unfold mkC
    split
    · unfold mkB
      rw [if_neg (by omega), if_pos rfl]
      omega
    · omega
  unfold mkN
  split
  · rfl
  · unfold mkW
    rw [ud_ne (by omega), ud_ne (by omega), ud_ne (by omega)]
    exact eC j hj
theorem Mrk_all {p : Nat} (hp : p < 5) (hq : (p : Int) < po) (hk : ∀ p : Nat, p < 5 → (p : Int) < po → Mrk N p) (hz : 0 ≤ N (22 + 23 * p + 1) ∧ N (22 + 23 * p + 1) < 40) : ∀ q : Nat, q < 5 → (q : Int) < po → Mrk (mkN N p) q := by
  intro q hq5 hqp
  by_cases e : q = p
  · subst e
    exact (hk q hp hq).now hz
  · have m := hk q hq5 hqp
    have mp := hk p hp hq
    obtain ⟨m1, m2, m3, m4⟩ := m
    refine ⟨?_, ?_, fun i hi => ?_, fun i hi => ?_⟩
    · rw [mkN_at mp (by omega)]; exact m1
    · rw [mkN_at mp (by omega), mkN_at mp (by omega)]; exact m2
    · rw [mkN_at mp (by omega)] at hi
      rw [mkN_at mp (by omega), mkN_at mp (by omega), mkN_at mp (by omega), mkN_at mp (by omega)]
      exact m3 i hi
    · rw [mkN_at mp (by omega)] at hi
      rw [mkN_at mp (by omega), mkN_at mp (by omega)]
      exact m4 i hi
theorem WF.mk {p : Nat} (W : WF N T L th pe po) (m : Mrk N p) : WF (mkN N p) T L th pe po := by
  refine ⟨W.1, fun q hq5 hqp => ⟨(W.2.1 q hq5 hqp).1, ?_⟩, W.2.2⟩
  have h := (W.2.1 q hq5 hqp).2
  unfold Rz at *
  rw [mkN_at m (by omega), mkN_at m (by omega)]
  exact h
end MO
