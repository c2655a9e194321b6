/-! draining in earnest; the reference's trades -/
section DR1
variable {M : MZ} {b : Nat} {kk : Bool} {N N1 T : Nat → Int} {L : List (Nat → Int)} {th pe po : Int}
theorem K_drain1 (hb : bOK b) (R : Rep kk M b N T L th pe po) (W1 : WF N1 T L th pe po) {p : Nat} {side amount : Int} (hp : p < 5) (hq : (p : Int) < po) (hs : side = 0 ∨ side = 1) (hm : MkO kk M b p N1 T L th pe po (N 0)) (hr : N1 (22 + 23 * p) = N (22 + 23 * p) ∧ N1 (22 + 23 * p + 1) = N (22 + 23 * p + 1)) (ha : 0 < amount ∧ amount ≤ 10000000000) {per : Int} (hper : per = -1 ∨ (0 ≤ per ∧ per < 4)) : ∃ M', g_X10_drain b per p side amount 1 M = some ((), M') ∧ Done kk M b T th pe po p side per (swap N1 T L p side amount (if side = 0 then 0 else 40) 1) M' := by
  have he : 0 ≤ (if side = 0 then (0 : Int) else 40) ∧ (if side = 0 then (0 : Int) else 40) ≤ 40 := by split <;> omega
  have hpb : Pbg p po side (if side = 0 then 0 else 40) 1 := ⟨hp, hq, hs, Or.inr rfl, he⟩
  have hrz : Rzz (xr N1 p) (xz N1 p) := (W1.2.1 p hp hq).2
  have hz := hrz.1
  have b1 := rtz_r (t := xz N1 p) (by omega) (by omega)
  have b2 := rtz_r (t := xz N1 p + 1) (by omega) (by omega)
  have hr' := hrz.2
  obtain ⟨M1, s1, s2, s3, s4⟩ := K_start1 hb R hp hq hm hs amount
  have ew1 : w32 (N (22 + 23 * p)) = xr N1 p := by rw [← hr.1]; exact w32_id (by show _ ≤ xr N1 p; omega) (by show xr N1 p ≤ _; omega)
  have ew2 : w32 (N (22 + 23 * p + 1)) = xz N1 p := by rw [← hr.2]; exact w32_id (by show _ ≤ xz N1 p; omega) (by show xz N1 p ≤ _; omega)
  rw [ew1, ew2] at s2
  have hae := ae0_end (N := N1) hs hz
  have m3 : zI M1 4 3 = side := s2.1.2.2.2.1
  rw [← hae] at s2
  obtain ⟨MF, c1, c2, c3, ⟨ae, c4⟩, c5⟩ := K_real_run hb s3 W1 hpb ha s2 per
  obtain ⟨M3, d1, d2⟩ := K_done (M0 := M) hb hpb c2 c3 c4 (fun x h1 h2 => (s4 x h1 h2).trans (c5 x h1 h2)) hper
  refine ⟨M3, ?_, d2⟩
  have c1' : g_X10_drain_28 100000 per (if side = 0 then 0 else 40) 0 M1 = some ((), M3) := by
    rw [d1] at c1
    unfold loopO at c1
    rw [if_neg (show ¬ (1 : Int) = 0 by omega)] at c1
    exact c1
  unfold g_X10_drain
  rw [s1]
  simp only [bindS]
  rw [if_neg (show ¬ (1 : Int) = 0 by omega), m3, K_lastTick]
  simp only [bindS]
  exact c1'
theorem R_trades (R : RepR M N T L th pe po) {p k per : Nat} (hp : p < 5) (hk : k < 2) (hper : per < 4) (ht : T2 T p) {side came gone : Int} (hs : side = k) (m30 : zL M 20 30 = came) (m31 : zL M 20 31 = gone) : ∃ M', g_X12_trades per p side M = some ((), M') ∧ RepR M' (trN N T p k per came gone) T L th pe po ∧ Fr23 M M' := by
  subst hs
  have tk : ∀ j : Nat, j < 2 → 0 ≤ T (5 * p + j) ∧ T (5 * p + j) < 5 := fun j hj => by
    rcases (show j = 0 ∨ j = 1 by omega) with rfl | rfl
    · exact ht.1
    · exact ht.2.1
  obtain ⟨t, et⟩ := zR_nat (tk k hk).1
  obtain ⟨u, eu⟩ := zR_nat (tk (1 - k) (by omega)).1
  have ht5 : t < 5 := by have := (tk k hk).2; omega
  have hu5 : u < 5 := by have := (tk (1 - k) (by omega)).2; omega
  have c0 : uc T p k per = 2 + (5 * per + t) := by unfold uc; rw [et, Int.toNat_natCast]
  have c1 : uc T p (1 - k) per = 2 + (5 * per + u) := by unfold uc; rw [eu, Int.toNat_natCast]
  have R1 := R.cell (j := 2 + (5 * per + t)) (by omega) (w64 (N (2 + (5 * per + t)) + w64 (-came)))
  have R2 := R1.cell (j := 2 + (5 * per + u)) (by omega) (w64 (ud N (2 + (5 * per + t)) (w64 (N (2 + (5 * per + t)) + w64 (-came))) (2 + (5 * per + u)) + gone))
  unfold trN
  rw [c0, c1]
  refine ⟨_, ?_, R2, Fr23_u.trans Fr23_u⟩
  have k2 : w32 (1 - (k : Int)) = ((1 - k : Nat) : Int) := by rw [w32_id (by omega) (by omega)]; omega
  unfold g_X12_trades
  rw [R_thingOf hp (by omega) (by omega), Int.toNat_natCast, R.2.1 (5 * p + k) (by omega), et]
  simp only [bindS]
  rw [R_morePurse hper ht5, m30, R.2.2.1 (2 + (5 * per + t)) (by omega)]
  simp only [bindS]
  rw [k2, R_thingOf hp (by omega) (by omega), Int.toNat_natCast, R1.2.1 (5 * p + (1 - k)) (by omega), eu]
  simp only [bindS]
  have q31 : ∀ v, zL (uL M 23 (2 + (5 * per + t)) v) 20 31 = gone := fun v => by rw [zL_uL, if_neg (by omega)]; exact m31
  rw [R_morePurse hper hu5, q31, R1.2.2.1 (2 + (5 * per + u)) (by omega)]
  simp only [bindS]
end DR1
