/-! levy -/
theorem Mny_house {D : Nat → Nat → Int} {N T : Nat → Int} {L : List (Nat → Int)} {po : Int} (h : MnyD D N T L po) {p k : Nat} (hk : k < 2) {v : Int} (h0 : 0 ≤ v) (h1 : v ≤ N (22 + 23 * p + (4 + k))) : MnyD D (ud N (22 + 23 * p + (4 + k)) v) T L po := by
  refine ⟨fun j hj => by rw [ud_ne (by omega)]; exact h.1 j hj, fun q x hq5 hqo hx => ?_, fun t ht => ?_, h.2.2.2⟩
  · obtain ⟨a, b, c⟩ := h.2.1 q x hq5 hqo hx
    unfold SolvD at *
    rw [ud_ne (show 22 + 23 * q + (2 + x) ≠ 22 + 23 * p + (4 + k) by omega), ud_ne (show 22 + 23 * q ≠ 22 + 23 * p + (4 + k) by omega), ud_ne (show 22 + 23 * q + 1 ≠ 22 + 23 * p + (4 + k) by omega)]
    by_cases e : 22 + 23 * q + (4 + x) = 22 + 23 * p + (4 + k)
    · rw [e, ud_at]
      rw [e] at c
      have := rcast_le h1
      refine ⟨h0, b, ?_⟩
      grind
    · rw [ud_ne e]
      exact ⟨a, b, c⟩
  · have := h.2.2.1 t ht
    have e : ∀ q, q < 5 → totP (ud N (22 + 23 * p + (4 + k)) v) T po t q = totP N T po t q := by
      intro q hq
      unfold totP
      rw [ud_ne (by omega), ud_ne (by omega)]
    unfold tot at *
    rw [e 0 (by omega), e 1 (by omega), e 2 (by omega), e 3 (by omega), e 4 (by omega), ud_ne (by omega), ud_ne (by omega), ud_ne (by omega), ud_ne (by omega)]
    exact this
def lvN (N T : Nat → Int) (p : Nat) : Nat → Int := ud (ud (gO2 N T p 0 (N (22 + 23 * p + 4)) (N (22 + 23 * p + 5))) (22 + 23 * p + 4) 0) (22 + 23 * p + 5) 0
theorem q_levy {M : MZ} (h : IV M) (p : Int) : ∃ r M1 M2, g_X11_levy p M = some (r, M1) ∧ g_X12_levy p M1 = some (r, M2) ∧ IV M2 := by
  have h0 := h
  obtain ⟨N, T, L, th, pe, po, R, RR, W, hM, hk, ht, hH, K, hA⟩ := h
  have hz := W.1.r
  unfold g_X11_levy g_X12_levy
  by_cases hp : 0 ≤ p ∧ p < po
  · obtain ⟨p, rfl⟩ := zR_nat hp.1
    have h5 : p < 5 := by omega
    have hq := hp.2
    have htt := W.t2 h5 hq
    have hper : (0 : Nat) < 4 := by omega
    have eh0 : zI M (78 + 2 + 2 + 5 * p + 2) 0 = w32 (N (22 + 23 * p + 4)) := K_house R h5 hq (j := 0) (by omega)
    have eh1 : zI M (78 + 2 + 2 + 5 * p + 2) 1 = w32 (N (22 + 23 * p + 5)) := K_house R h5 hq (j := 1) (by omega)
    obtain ⟨M1, a1, R1, F1, Z1⟩ := K_payOut b78 R (k := 0) (per := 0) h5 hq (by omega) hper htt.1 (x := w32 (N (22 + 23 * p + 4))) (v := N (22 + 23 * p + 4)) (w32_w32 _)
    have a1' : g_X2_payOut 78 (78 + 2 + 2 + 5 * p) 0 0 (w32 (N (22 + 23 * p + 4))) M = some ((), M1) := a1
    obtain ⟨M2, a2, R2, F2, Z2⟩ := K_payOut b78 R1 (k := 1) (per := 0) h5 hq (by omega) hper htt.2.1 (x := w32 (N (22 + 23 * p + 5))) (v := N (22 + 23 * p + 5)) (w32_w32 _)
    have a2' : g_X2_payOut 78 (78 + 2 + 2 + 5 * p) 1 0 (w32 (N (22 + 23 * p + 5))) M1 = some ((), M2) := a2
    have R3 := R2.pool (p := p) (w := 4) h5 (by omega) (v := 0) (v' := 0) rfl
    have R4 := R3.pool (p := p) (w := 5) h5 (by omega) (v := 0) (v' := 0) rfl
    have F4 : FrB 78 M (uI (uI M2 (78 + 2 + 2 + 5 * p + pad 4) (ppl 4) 0) (78 + 2 + 2 + 5 * p + pad 5) (ppl 5) 0) := ((F1.trans F2).trans (FrB_uI (by have := pad_lt 4; omega))).trans (FrB_uI (by have := pad_lt 5; omega))
    have RR4 := RR_of F4 RR
    generalize eM4 : uI (uI M2 (78 + 2 + 2 + 5 * p + pad 4) (ppl 4) 0) (78 + 2 + 2 + 5 * p + pad 5) (ppl 5) 0 = M4 at *
    obtain ⟨M5, b1, R5, G5⟩ := R_goesOut RR4 (k := 0) (per := 0) h5 (by omega) hper htt.1 (N (22 + 23 * p + 4))
    have b1' : g_X12_goesOut p 0 0 (N (22 + 23 * p + 4)) M4 = some ((), M5) := b1
    have R6 := R5.cell (j := 22 + 23 * p + 4) (by omega) 0
    obtain ⟨M7, b2, R7, G7⟩ := R_goesOut R6 (k := 1) (per := 0) h5 (by omega) hper htt.2.1 (N (22 + 23 * p + 5))
    have b2' : g_X12_goesOut p 0 1 (N (22 + 23 * p + 5)) (uL M5 23 (22 + 23 * p + 4) 0) = some ((), M7) := b2
    have R8 := R7.cell (j := 22 + 23 * p + 5) (by omega) 0
    have eN : ud (gOut (ud (gOut N T p 0 0 (N (22 + 23 * p + 4))) (22 + 23 * p + 4) 0) T p 1 0 (N (22 + 23 * p + 5))) (22 + 23 * p + 5) 0 = lvN N T p := by
      funext j
      unfold lvN gO2 ud gOut
      dsimp only []
      have eu1 : uc T p 1 0 = 2 + (5 * 0 + (T (5 * p + 1)).toNat) := rfl
      have e1 : hc p 1 = 22 + 23 * p + 3 := rfl
      by_cases c5 : j = 22 + 23 * p + 5
      · rw [if_pos c5, if_pos c5]
      · rw [if_neg c5, if_neg c5]
        by_cases c4 : j = 22 + 23 * p + 4
        · have := htt.2.1
          rw [if_neg (by omega), if_neg (by omega), if_pos c4, if_pos c4]
        · rw [if_neg c4, if_neg c4]
    rw [eN] at R8
    have o4 : g_X12_ofPool p 4 M4 = some (N (22 + 23 * p + 4), M4) := R_pool RR4 h5 (by omega) (by omega)
    have o5 : g_X12_ofPool p 5 (uL M5 23 (22 + 23 * p + 4) 0) = some (N (22 + 23 * p + 5), uL M5 23 (22 + 23 * p + 4) 0) := by
      rw [R_pool R6 h5 (by omega) (by omega)]
      have : ud (gOut N T p 0 0 (N (22 + 23 * p + 4))) (22 + 23 * p + 4) 0 (22 + 23 * p + (5 : Int).toNat) = N (22 + 23 * p + 5) := by
        rw [show (5 : Int).toNat = 5 from rfl, ud_ne (by omega)]
        exact gOut_rz (by omega) hper htt.1 p (w := 5) (by omega) (Or.inr (by omega))
      rw [this]
    have e : ∀ (f : Nat) (v k : Int) (M : MZ), g_X12_levy_15 (f + 1) p v k M = g_X12_levy_15B (g_X12_levy_15 f) p v k M := fun _ _ _ _ => rfl
    have s0 : ∀ f : Nat, g_X12_levy_15 (f + 1) p 0 0 M4 = g_X12_levy_15 f p (w64 (0 + N (22 + 23 * p + 4))) 1 (uL M5 23 (22 + 23 * p + 4) 0) := by
      intro f
      rw [e]
      unfold g_X12_levy_15B g_X12_levy_57
      rw [if_neg (by omega), w32_id (x := 4 + 0) (by omega) (by omega), show (4 + 0 : Int) = 4 from rfl, w32_id (x := 0 + 1) (by omega) (by omega), show (0 + 1 : Int) = 1 from rfl]
      simp only [o4, b1', R_setPool h5 (show (0 : Int) ≤ 4 by omega) (by omega), bindS]
      rfl
    have s1 : ∀ f : Nat, g_X12_levy_15 (f + 1) p (w64 (0 + N (22 + 23 * p + 4))) 1 (uL M5 23 (22 + 23 * p + 4) 0) = g_X12_levy_15 f p (w64 (w64 (0 + N (22 + 23 * p + 4)) + N (22 + 23 * p + 5))) 2 (uL M7 23 (22 + 23 * p + 5) 0) := by
      intro f
      rw [e]
      unfold g_X12_levy_15B g_X12_levy_57
      rw [if_neg (by omega), w32_id (x := 4 + 1) (by omega) (by omega), show (4 + 1 : Int) = 5 from rfl, w32_id (x := 1 + 1) (by omega) (by omega), show (1 + 1 : Int) = 2 from rfl]
      simp only [o5, b2', R_setPool h5 (show (0 : Int) ≤ 5 by omega) (by omega), bindS]
      rfl
    have s2 : ∀ (f : Nat) (v : Int) (M : MZ), g_X12_levy_15 (f + 1) p v 2 M = some (w32 v, M) := by
      intro f v M
      rw [e]
      unfold g_X12_levy_15B
      rw [if_pos (by omega)]
    refine ⟨w32 (N (22 + 23 * p + 4) + N (22 + 23 * p + 5)), M4, uL M7 23 (22 + 23 * p + 5) 0, ?_, ?_, ?_⟩
    · rw [K_poolAt_y b78 h5 (by rw [R.1.2.2.1]; exact hq)]
      simp only [bindS]
      unfold g_X11_levy_22 g_X11_levy_30
      rw [if_neg (by omega), if_pos (kdp b78 h5), if_pos (kdp b78 h5), eh0, eh1, a1']
      simp only [bindS]
      rw [a2']
      simp only [bindS]
      rw [if_pos (kdp b78 h5), w32_al, w32_ar, ← eM4]
      rfl
    · rw [R_isPool, RR4.1.2.2]
      simp only [bindS, bI_0]
      rw [if_neg (fun q => q hp)]
      have := (s0 99999).trans ((s1 99998).trans (s2 99997 _ _))
      rw [w32_w64, Int.zero_add, show w32 (w64 (N (22 + 23 * p + 4)) + N (22 + 23 * p + 5)) = w32 (N (22 + 23 * p + 4) + N (22 + 23 * p + 5)) from w32_add_cg (w32_w64 _) rfl] at this
      exact this
    · have S0 := hM.2.1 p 0 h5 hq (by omega)
      have S1 := hM.2.1 p 1 h5 hq (by omega)
      have S0' := S0.2.2
      have S1' := S1.2.2
      have hM1 := Mny_house hM (p := p) (k := 0) (by omega) (v := 0) (by omega) S0.1
      have hM2 := Mny_house hM1 (p := p) (k := 1) (by omega) (v := 0) (by omega) (by rw [ud_ne (by omega)]; exact S1.1)
      have hcells : ∀ q w, w < 23 → (w < 2 ∨ 6 ≤ w) → lvN N T p (22 + 23 * q + w) = N (22 + 23 * q + w) := by
        intro q w hw hw2
        unfold lvN
        rw [ud_ne (by omega), ud_ne (by omega)]
        exact gO2_rz hper htt.1 htt.2.1 q hw (by omega)
      have hlo : lvN N T p 0 = N 0 := by
        unfold lvN
        rw [ud_ne (by omega), ud_ne (by omega)]
        exact gO2_lo (by omega)
      have hrz : Rzz (N (22 + 23 * p)) (N (22 + 23 * p + 1)) := (W.2.1 p h5 hq).2
      have nn0 := sumR_nn (claim_nn W.2.2 hM.2.2.2 hrz p (k := 0) (by omega))
      have nn1 := sumR_nn (claim_nn W.2.2 hM.2.2.2 hrz p (k := 1) (by omega))
      have m0 : 0 ≤ N (uc T p 0 0) := hM.1 (5 * 0 + (T (5 * p)).toNat) (by have := htt.1; omega)
      have m1 : 0 ≤ N (uc T p 1 0) := hM.1 (5 * 0 + (T (5 * p + 1)).toNat) (by have := htt.2.1; omega)
      have q0 : 0 ≤ N (22 + 23 * p + 4) := S0.1
      have q1 : 0 ≤ N (22 + 23 * p + 5) := S1.1
      unfold SolvD at S0' S1'
      have d00 : ((D0 p 0 : Int) : Rat) = 0 := rfl
      have d01 : ((D0 p 1 : Int) : Rat) = 0 := rfl
      rw [d00] at S0'
      rw [d01] at S1'
      have eu0 : uc T p 0 0 = 2 + (5 * 0 + (T (5 * p)).toNat) := rfl
      have eu1 : uc T p 1 0 = 2 + (5 * 0 + (T (5 * p + 1)).toNat) := rfl
      have htt' := htt
      obtain ⟨v0, v1, v2⟩ := htt'
      have S0'' : (N (22 + 23 * p + 4) : Rat) + sumR (claimX p 0 (N (22 + 23 * p)) (N (22 + 23 * p + 1))) L ≤ (N (22 + 23 * p + 2) : Rat) + 0 := S0'
      have S1'' : (N (22 + 23 * p + 5) : Rat) + sumR (claimX p 1 (N (22 + 23 * p)) (N (22 + 23 * p + 1))) L ≤ (N (22 + 23 * p + 3) : Rat) + 0 := S1'
      have hMF : MnyD D0 (gO2 (ud (ud N (22 + 23 * p + (4 + 0)) 0) (22 + 23 * p + (4 + 1)) 0) T p 0 (N (22 + 23 * p + 4)) (N (22 + 23 * p + 5))) T L po := by
        have r4 : ud (ud N (22 + 23 * p + (4 + 0)) 0) (22 + 23 * p + (4 + 1)) 0 (22 + 23 * p + (4 + 0)) = 0 := by rw [ud_ne (by omega), ud_at]
        have r5 : ud (ud N (22 + 23 * p + (4 + 0)) 0) (22 + 23 * p + (4 + 1)) 0 (22 + 23 * p + (4 + 1)) = 0 := ud_at _ _ _
        have rj : ∀ j, j ≠ 22 + 23 * p + 4 → j ≠ 22 + 23 * p + 5 → ud (ud N (22 + 23 * p + (4 + 0)) 0) (22 + 23 * p + (4 + 1)) 0 j = N j := fun j j1 j2 => by rw [ud_ne (by omega), ud_ne (by omega)]
        refine Mny_gO2 hM2 h5 hq hper htt ?_ ?_ ?_ ?_ ?_ ?_ ?_ hM.2.2.2
        · rw [rj _ (by omega) (by omega)]; omega
        · rw [rj _ (by omega) (by omega)]; omega
        · rw [show hc p 0 = 22 + 23 * p + 2 from rfl, rj _ (by omega) (by omega)]
          have : (N (22 + 23 * p + 4) : Rat) ≤ (N (22 + 23 * p + 2) : Rat) := by grind
          have := Rat.intCast_le_intCast.mp this
          omega
        · rw [show hc p 1 = 22 + 23 * p + 3 from rfl, rj _ (by omega) (by omega)]
          have : (N (22 + 23 * p + 5) : Rat) ≤ (N (22 + 23 * p + 3) : Rat) := by grind
          have := Rat.intCast_le_intCast.mp this
          omega
        · rw [r4, rj (22 + 23 * p) (by omega) (by omega), rj (22 + 23 * p + 1) (by omega) (by omega), rj (22 + 23 * p + (2 + 0)) (by omega) (by omega), d00, Rat.intCast_zero, show 22 + 23 * p + (2 + 0) = 22 + 23 * p + 2 from rfl]
          grind
        · rw [r5, rj (22 + 23 * p) (by omega) (by omega), rj (22 + 23 * p + 1) (by omega) (by omega), rj (22 + 23 * p + (2 + 1)) (by omega) (by omega), d01, Rat.intCast_zero, show 22 + 23 * p + (2 + 1) = 22 + 23 * p + 3 from rfl]
          grind
        · intro q k hq5 hqo hqp hk2
          exact Rat.le_refl
      have eF : gO2 (ud (ud N (22 + 23 * p + (4 + 0)) 0) (22 + 23 * p + (4 + 1)) 0) T p 0 (N (22 + 23 * p + 4)) (N (22 + 23 * p + 5)) = lvN N T p := by
        funext j
        unfold lvN gO2 ud gOut
        dsimp only []
        have e0 : hc p 0 = 22 + 23 * p + 2 := rfl
        have e1 : hc p 1 = 22 + 23 * p + 3 := rfl
        by_cases c5 : j = 22 + 23 * p + 5
        · have c5' : j = 22 + 23 * p + (4 + 1) := c5
          rw [if_neg (by omega), if_neg (by omega), if_neg (by omega), if_neg (by omega), if_pos c5', if_pos c5]
        · have c5' : ¬ j = 22 + 23 * p + (4 + 1) := c5
          rw [if_neg c5', if_neg c5]
          by_cases c4 : j = 22 + 23 * p + 4
          · have c4' : j = 22 + 23 * p + (4 + 0) := c4
            rw [if_neg (by omega), if_neg (by omega), if_neg (by omega), if_neg (by omega), if_pos c4', if_pos c4]
          · have c4' : ¬ j = 22 + 23 * p + (4 + 0) := c4
            rw [if_neg c4', if_neg c4]
      rw [eF] at hMF
      refine IV_mk (N := lvN N T p) F4 (((G5.trans Fr23_u).trans G7).trans Fr23_u) R4 R8 ⟨W.1, fun q hq5 hqo => ⟨(W.2.1 q hq5 hqo).1, ?_⟩, W.2.2⟩ hMF (fun q hq5 hqo => ?_) (by rw [hlo]; exact ht) hH K hA
      · have := (W.2.1 q hq5 hqo).2
        unfold Rz at *
        have e0 := hcells q 0 (by omega) (by omega)
        rw [Nat.add_zero] at e0
        rw [e0, hcells q 1 (by omega) (by omega)]
        exact this
      · have m := hk q hq5 hqo
        obtain ⟨n1, n2, n3, n4⟩ := m
        have e6 := hcells q 6 (by omega) (by omega)
        refine ⟨by rw [e6]; exact n1, by rw [hcells q 7 (by omega) (by omega), hcells q 8 (by omega) (by omega)]; exact n2, fun i hi => ?_, fun i hi => ?_⟩
        · rw [e6] at hi
          rw [hcells q (7 + 2 * i) (by omega) (by omega), hcells q (7 + 2 * (i + 1)) (by omega) (by omega), hcells q (8 + 2 * i) (by omega) (by omega), hcells q (8 + 2 * (i + 1)) (by omega) (by omega)]
          exact n3 i hi
        · rw [e6] at hi
          rw [hcells q (7 + 2 * i) (by omega) (by omega), hlo]
          exact n4 i hi
  · refine ⟨-1, M, M, ?_, ?_, h0⟩
    · rw [K_poolAt_n b78 (by rw [R.1.2.2.1]; exact hp)]
      simp only [bindS]
      rw [if_pos trivial]
    · rw [R_isPool, RR.1.2.2]
      simp only [bindS, bI_0]
      rw [if_pos hp]
theorem ok_levy (a : Int32) : SO INV (f_X11_levy a) (f_X12_levy a) := SO_of (IV := IV) (fun _ => l_X11_levy rfl rfl) (fun _ => l_X12_levy rfl rfl) (fun _ h => q_levy h _)
