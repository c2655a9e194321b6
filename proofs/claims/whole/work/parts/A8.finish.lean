/-! the end of a swap done: held, crossings, purses -/
def trN (N T : Nat → Int) (p k per : Nat) (came gone : Int) : Nat → Int := ud (ud N (uc T p k per) (w64 (N (uc T p k per) + w64 (-came)))) (uc T p (1 - k) per) (w64 (ud N (uc T p k per) (w64 (N (uc T p k per) + w64 (-came))) (uc T p (1 - k) per) + gone))
section FN
variable {M : MZ} {b : Nat} {kk : Bool} {T : Nat → Int} {L : List (Nat → Int)} {th pe po : Int} {Nc Ns : Nat → Int}
theorem Rep.pd (R : Rep kk M b Nc T L th pe po) (h : Pd (fun _ => 0) Nc Ns) : Rep kk M b Ns T L th pe po := by
  have hw : ∀ j, w32 (Nc j) = w32 (Ns j) := fun j => by
    have := h.1 j
    rw [w32_iff]
    simp only [] at this
    omega
  obtain ⟨⟨a0, a1, a2, a3, a4, a5⟩, r2, r3, r4, r5⟩ := R
  refine ⟨⟨a0, a1, a2, a3, ?_, ?_⟩, fun j hj => ?_, r3, fun p hp hq w hw' hc => ?_, r5⟩
  · rw [a4, h.2 0 (Or.inl rfl)]
  · rw [a5, hw]
  · rw [r2 j hj, hw]
  · rw [← hw]
    refine r4 p hp hq w hw' ?_
    rw [h.2 (22 + 23 * p + 6) (Or.inr ⟨p, 6, rfl, by omega, by omega⟩)] at hc
    exact hc
theorem K_finishA (hb : bOK b) {p k : Nat} (hp : p < 5) (hq : (p : Int) < po) (hk : k < 2) {side paid gave cr : Int} (R : Rep kk M b Nc T L th pe po) (h : Pd (dlt p k paid gave cr) Nc Ns) (hs : side = k) (m0 : zR M 4 0 = b) (m1 : zR M 4 1 = b + 2 + 2 + 5 * p) (m3 : zI M 4 3 = side) (m4 : zI M 4 4 = 1) (m9 : zI M 4 9 = cr) (m11 : zL M 4 11 = gave) (m12 : zL M 4 12 = paid) (per : Int) : ∃ M', g_X10_finish per M = g_X10_finish_76 per M' ∧ Rep kk M' b Ns T L th pe po ∧ FrB b M M' := by
  subst hs
  have hbx : ∀ j : Nat, ¬ ((4 : Nat) = b + j) := fun j => by rcases hb with rfl | rfl <;> omega
  have hb4 : ¬ (4 : Nat) = b := by rcases hb with rfl | rfl <;> omega
  have hb5 : ¬ (4 : Nat) = b + 2 + 2 + 5 * p + 1 := by rcases hb with rfl | rfl <;> omega
  have pk : ∀ k : Nat, k < 2 → pad (2 + k) = 1 := fun k hk => by unfold pad; repeat' split
                                                                 all_goals omega
  have qk : ∀ k : Nat, k < 2 → ppl (2 + k) = k := fun k hk => by unfold ppl; repeat' split
                                                                 all_goals omega
  have R1 := R.crossed (v := Nc 1 + cr) rfl
  have R2 := R1.pool (p := p) (w := 2 + k) hp (by omega) (v := Nc (hc p k) + paid) rfl
  have R3 := R2.pool (p := p) (w := 2 + (1 - k)) hp (by omega) (v := Nc (hc p (1 - k)) - gave) rfl
  rw [pk k hk, qk k hk, pk (1 - k) (by omega), qk (1 - k) (by omega)] at R3
  refine ⟨_, ?_, R3.pd ?_, ((FrB_uI (by omega)).trans (FrB_uI (by omega))).trans (FrB_uI (by omega))⟩
  · have e1 : w32 ((zI M b 5) + (zI M 4 9)) = w32 (Nc 1 + cr) := by
      rw [R.1.2.2.2.2.2, m9]
      exact w32_add_cg (w32_w32 _) rfl
    have k1 : ((k : Nat) : Int).toNat = k := Int.toNat_natCast k
    have k2 : w32 (1 - (k : Int)) = ((1 - k : Nat) : Int) := by rw [w32_id (by omega) (by omega)]; omega
    unfold g_X10_finish
    rw [m4, if_neg (show ¬ (1 : Int) = 0 by omega), K_isSide, m3]
    simp only [bindS, bI_0]
    rw [if_neg (fun q => q (by omega)), m0, e1, if_pos (kdb hb)]
    generalize e2 : uI M b 5 (w32 (Nc 1 + cr)) = S1
    have s1 : zR S1 4 1 = b + 2 + 2 + 5 * p := by rw [← e2]; exact m1
    have s3 : zI S1 4 3 = k := by rw [← e2, zI_uI, if_neg (by omega)]; exact m3
    have s12 : zL S1 4 12 = paid := by rw [← e2]; exact m12
    have s11 : zL S1 4 11 = gave := by rw [← e2]; exact m11
    have sh : ∀ j : Nat, j < 2 → zI S1 (b + 2 + 2 + 5 * p + 1) j = w32 (Nc (hc p j)) := fun j hj => by
      rw [← e2, zI_uI, if_neg (by omega)]
      exact K_held R hp hq hj
    have e3 : w32 (zI S1 (b + 2 + 2 + 5 * p + 1) k + w32 (zL S1 4 12)) = w32 (Nc (hc p k) + paid) := by
      rw [sh k hk, s12]
      exact w32_add_cg (w32_w32 _) (w32_w32 _)
    rw [s1, s3, k1, if_pos (kdp hb hp), if_pos (by omega), if_pos (by omega), e3]
    generalize e4 : uI S1 (b + 2 + 2 + 5 * p + 1) k (w32 (Nc (hc p k) + paid)) = S2
    have t1 : zR S2 4 1 = b + 2 + 2 + 5 * p := by rw [← e4]; exact s1
    have t3 : zI S2 4 3 = k := by rw [← e4, zI_uI, if_neg (by omega)]; exact s3
    have t11 : zL S2 4 11 = gave := by rw [← e4]; exact s11
    have e5 : w32 (zI S2 (b + 2 + 2 + 5 * p + 1) (1 - k) - w32 (zL S2 4 11)) = w32 (Nc (hc p (1 - k)) - gave) := by
      rw [← e4, zI_uI, if_neg (by omega), sh (1 - k) (by omega), e4, t11]
      exact w32_sub_cg (w32_w32 _) (w32_w32 _)
    rw [t1, t3, k2, Int.toNat_natCast, if_pos (kdp hb hp), if_pos (by omega), if_pos (by omega), e5]
  · have n1 : hc p k ≠ 1 := by unfold hc; omega
    have n2 : hc p (1 - k) ≠ 1 := by unfold hc; omega
    have n3 : hc p (1 - k) ≠ hc p k := by unfold hc; omega
    have E : ∀ j, ud (ud (ud Nc 1 (Nc 1 + cr)) (22 + 23 * p + (2 + k)) (Nc (hc p k) + paid)) (22 + 23 * p + (2 + (1 - k))) (Nc (hc p (1 - k)) - gave) j = Nc j + dlt p k paid gave cr j := fun j => by
      unfold dlt
      show ud (ud (ud Nc 1 (Nc 1 + cr)) (hc p k) (Nc (hc p k) + paid)) (hc p (1 - k)) (Nc (hc p (1 - k)) - gave) j = _
      by_cases c1 : j = hc p (1 - k)
      · subst c1
        rw [ud_at, if_neg n3, if_pos rfl, if_neg n2]
        omega
      · rw [ud_ne c1, if_neg c1]
        by_cases c2 : j = hc p k
        · subst c2
          rw [ud_at, if_pos rfl, if_neg n1]
          omega
        · rw [ud_ne c2, if_neg c2]
          by_cases c3 : j = 1
          · subst c3
            rw [ud_at, if_pos rfl]
            omega
          · rw [ud_ne c3, if_neg c3]
            omega
    refine ⟨fun j => ?_, fun j hj => ?_⟩
    · have := h.1 j
      rw [E]
      simp only []
      omega
    · have h0 := h.2 j hj
      rw [E]
      have c1 : j ≠ hc p k := fun q => fix_hc hk (q ▸ hj)
      have c2 : j ≠ hc p (1 - k) := fun q => fix_hc (by omega) (q ▸ hj)
      have c3 : j ≠ 1 := fun q => fix_1 (q ▸ hj)
      unfold dlt
      rw [if_neg c1, if_neg c2, if_neg c3]
      omega
theorem K_finish_no (M : MZ) : g_X10_finish_76 (-1) M = some ((), M) := by
  unfold g_X10_finish_76 g_X10_finish_132
  rw [if_pos rfl]
theorem K_finish_per (hb : bOK b) {p k per : Nat} (hp : p < 5) (hq : (p : Int) < po) (hk : k < 2) (hper : per < 4) (ht : T2 T p) {side paid gave : Int} (R : Rep kk M b Ns T L th pe po) (hs : side = k) (m0 : zR M 4 0 = b) (m1 : zR M 4 1 = b + 2 + 2 + 5 * p) (m3 : zI M 4 3 = side) (m11 : zL M 4 11 = gave) (m12 : zL M 4 12 = paid) : ∃ M', g_X10_finish_76 per M = some ((), M') ∧ Rep kk M' b (trN Ns T p k per paid gave) T L th pe po ∧ FrB b M M' := by
  subst hs
  have hb1 : ¬ (4 : Nat) = b + 1 := by rcases hb with rfl | rfl <;> omega
  have tk : ∀ j : Nat, j < 2 → 0 ≤ T (5 * p + j) ∧ T (5 * p + j) < 5 := fun j hj => by
    rcases (show j = 0 ∨ j = 1 by omega) with rfl | rfl
    · exact ht.1
    · exact ht.2.1
  obtain ⟨t, et⟩ := zR_nat (tk k hk).1
  obtain ⟨u, eu⟩ := zR_nat (tk (1 - k) (by omega)).1
  have ht5 : t < 5 := by have := (tk k hk).2; omega
  have hu5 : u < 5 := by have := (tk (1 - k) (by omega)).2; omega
  have c0 : uc T p k per = 2 + (5 * per + t) := by unfold uc; rw [et, Int.toNat_natCast]
  have c1 : uc T p (1 - k) per = 2 + (5 * per + u) := by unfold uc; rw [eu, Int.toNat_natCast]
  have R1 := R.purse (j := 5 * per + t) (by omega) (v := w64 (Ns (2 + (5 * per + t)) + w64 (-paid))) rfl
  have R2 := R1.purse (j := 5 * per + u) (by omega) (v := w64 (ud Ns (2 + (5 * per + t)) (w64 (Ns (2 + (5 * per + t)) + w64 (-paid))) (2 + (5 * per + u)) + gave)) rfl
  unfold trN
  rw [c0, c1]
  refine ⟨_, ?_, R2, (FrB_uI (by omega)).trans (FrB_uI (by omega))⟩
  have k2 : w32 (1 - (k : Int)) = ((1 - k : Nat) : Int) := by rw [w32_id (by omega) (by omega)]; omega
  have hsel : ∀ j : Nat, j < 2 → (if (j : Int) = 0 then 0 else 1) = j := fun j hj => by split <;> omega
  unfold g_X10_finish_76 g_X10_finish_132
  rw [if_neg (by omega), m1, if_pos (kdp hb hp), m3, K_thingOn hb hp]
  simp only [bindS]
  rw [m0, if_pos (kdb hb), hsel k hk, K_told R hp hq (by omega), et, K_putIntoPurse hb hper ht5]
  simp only [bindS]
  have ea : w32 (zI M (b + 1) (5 * per + t) + w32 (w64 (-zL M 4 12))) = w32 (w64 (Ns (2 + (5 * per + t)) + w64 (-paid))) := by
    rw [R.2.1 _ (by omega), m12, w32_w64 (Ns (2 + (5 * per + t)) + w64 (-paid))]
    exact w32_add_cg (w32_w32 _) (w32_w32 _)
  rw [ea]
  generalize e2 : uI M (b + 1) (5 * per + t) (w32 (w64 (Ns (2 + (5 * per + t)) + w64 (-paid)))) = S1
  rw [e2] at R1
  have s0 : zR S1 4 0 = b := by rw [← e2]; exact m0
  have s1 : zR S1 4 1 = b + 2 + 2 + 5 * p := by rw [← e2]; exact m1
  have s3 : zI S1 4 3 = k := by rw [← e2, zI_uI, if_neg (by omega)]; exact m3
  have s11 : zL S1 4 11 = gave := by rw [← e2]; exact m11
  rw [s1, if_pos (kdp hb hp), s3, k2, K_thingOn hb hp]
  simp only [bindS]
  rw [s0, if_pos (kdb hb), hsel (1 - k) (by omega), K_told R1 hp hq (by omega), eu, K_putIntoPurse hb hper hu5]
  simp only [bindS]
  have eb : w32 (zI S1 (b + 1) (5 * per + u) + w32 (zL S1 4 11)) = w32 (w64 (ud Ns (2 + (5 * per + t)) (w64 (Ns (2 + (5 * per + t)) + w64 (-paid))) (2 + (5 * per + u)) + gave)) := by
    rw [R1.2.1 _ (by omega), s11, w32_w64]
    exact w32_add_cg (w32_w32 _) (w32_w32 _)
  rw [eb]
end FN
