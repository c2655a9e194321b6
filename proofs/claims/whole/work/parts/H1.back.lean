/-! a loan comes back -/
section LB
variable {Mc Mr : MZ} {N T : Nat → Int} {L : List (Nat → Int)} {th pe po : Int} {D : Nat → Nat → Int} {m per o : Nat}
theorem fee_b {a f : Int} (ha : 1 ≤ a ∧ a ≤ 39999996) (hf : 0 ≤ f ∧ f ≤ 99) : (0 ≤ a * f ∧ a * f ≤ 3999999600) ∧ 0 ≤ cdiv (a * f) 1000 ∧ cdiv (a * f) 1000 ≤ 4000000 := by
  have m1 : a * f ≤ 39999996 * 99 := Int.mul_le_mul ha.2 hf.2 hf.1 (by omega)
  have m2 : 0 ≤ a * f := Int.mul_nonneg (by omega) hf.1
  have h1 := cdiv_r (x := a * f) (y := 1000) m2 (by omega)
  have h2 := (cdiv_le (x := a * f) (y := 1000) (t := 4000000) (by omega)).2 (by omega)
  omega
theorem a_back (h : CR Mc Mr N T L th pe po D m per) (hi : o < 40) (hs : PSp Mc Mr o) (hpl : zI Mc (38 + o) 1 = zI Mr 29 o) {p k : Nat} (hp : p < 5) (hk2 : k < 2) (ep : zI Mr 30 (4 * o) = p) (ek : zI Mr 30 (4 * o + 1) = k) (hbit : m / 2 ^ p % 2 = 1) {a : Int} (ha : 1 ≤ a ∧ a ≤ 39999996) (hda : D p k = a) (hd1 : D p (1 - k) = 0) :
    (∃ Mc' Mr' N' L', g_X5_giveBack (38 + o) a Mc = some ((), Mc') ∧ g_X12_givesBack o a Mr = some (1, Mr') ∧ CR Mc' Mr' N' T L' th pe po (fun q k' => if q = p ∧ k' = k then 0 else D q k') (if m / 2 ^ p % 2 = 1 then m - 2 ^ p else m) per ∧ (∀ x, x ≠ 13 → ¬ (78 ≤ x ∧ x < 78 + 65) → sameH Mc Mc' x) ∧ (∀ x, x ≠ 20 → x ≠ 23 → sameH Mr Mr' x) ∧ (∀ j, j ≠ 46 → zI Mr' 20 j = zI Mr 20 j) ∧ (∀ j, zL Mr' 20 j = zL Mr 20 j)) ∨
    (∃ Mc' Mr', g_X5_giveBack (38 + o) a Mc = some ((), Mc') ∧ g_X12_givesBack o a Mr = some (0, Mr') ∧ zI Mc' 9 1 = fz 7 (zI Mr 29 o) ∧ zI Mr' 20 10 = fz 7 (zI Mr 29 o) ∧ HP Mc' 78 ∧ KON Mr' ∧ (∀ x, x ≠ 9 → x ≠ 13 → ¬ (78 ≤ x ∧ x < 78 + 65) → sameH Mc Mc' x) ∧ (∀ x, x ≠ 20 → sameH Mr Mr' x) ∧ (∀ j, j ≠ 10 → j ≠ 46 → zI Mr' 20 j = zI Mr 20 j) ∧ (∀ j, zL Mr' 20 j = zL Mr 20 j)) := by
  have h' := h
  obtain ⟨R, RR, K, W, hM, hk, ht, hD, ⟨p1, p2, p3⟩, ⟨l1, l2, l3⟩, l4, l5⟩ := h'
  have hpe := W.1.r
  have h12 := R.2.2.2.2.2.2
  obtain ⟨s1, s2, s3, s4⟩ := hs
  rw [ep] at s1 s2
  rw [ek] at s3 s4
  obtain ⟨c1, c3⟩ := l4 p hp hbit
  have hT := (W.t2 hp c1).k hk2
  have hTd := (W.2.1 p hp c1).1
  unfold Told at hTd
  have hf := hTd.2.2.2.1
  have hc3 := hTd.2.2.2.2.1
  have hrz := (W.2.1 p hp c1).2
  obtain ⟨fb1, fb2⟩ := fee_b ha hf
  obtain ⟨t, et⟩ := zR_nat hT.1
  have eu := uc_eq (p := p) (k := k) (per := per) et
  have hpur := hM.hU (5 * per + t) (by omega)
  rw [← eu] at hpur
  -- the class
  have hM1 : ∀ x, x ≠ 13 → sameH Mc (uI Mc 13 p 0) x := fun x hx => sameH_uI hx
  have R0 : Rep true (uI Mc 13 p 0) 78 N T L th pe po := R.same (fun x h1 h2 => hM1 x (by omega))
  have eK : g_X5_giveBack (38 + o) a Mc = (if a + cdiv (a * T (5 * p + 2)) 1000 ≤ N (uc T p k per) then ((g_X2_payOut 78 (78 + 2 + 2 + 5 * p) k per (-a - cdiv (a * T (5 * p + 2)) 1000) (uI Mc 13 p 0)).bind fun q95 => ((g_X2_share 78 (zI q95.2 (38 + o) 2) (zI q95.2 (38 + o) 3) (cdiv (a * T (5 * p + 2)) 1000) q95.2).bind fun q113 => (some ((), q113.2)))) else some ((), uI (uI Mc 13 p 0) 9 1 (fz 7 (zI Mr 29 o)))) := by
    unfold g_X5_giveBack
    rw [if_pos (kdt o hi), s1, K_poolAt_y b78 hp (by rw [R.1.2.2.1]; exact c1)]
    simp only [bindS]
    have elk : g_X5_setLocked (zI Mc (38 + o) 2) 0 Mc = some ((), uI Mc 13 p 0) := by
      unfold g_X5_setLocked g_X5_setLocked_20
      rw [s1, if_neg (by omega), if_neg (by omega), if_pos (by omega), if_pos (Or.inl rfl), Int.toNat_natCast]
    rw [elk]
    simp only [bindS]
    have ef : zI (uI Mc 13 p 0) (78 + 2 + 2 + 5 * p) 2 = T (5 * p + 2) := R0.2.2.1 p hp c1 2 (by omega)
    rw [if_neg (show ¬ 78 + 2 + 2 + 5 * p = 0 by omega), if_pos (kdp b78 hp), ef, w64_id (x := a * T (5 * p + 2)) (by omega) (by omega), K_up fb1.1 (by omega) (by omega) (by omega)]
    simp only [bindS]
    unfold g_X5_giveBack_43 g_X5_fail
    have e3 : zI (uI Mc 13 p 0) (38 + o) 3 = (k : Int) := by rw [zI_uI, if_neg (by omega)]; exact s3
    have e1' : zI (uI Mc 13 p 0) (38 + o) 1 = zI Mr 29 o := by rw [zI_uI, if_neg (by omega)]; exact hpl
    have e95 : zI (uI Mc 13 p 0) 9 5 = (per : Int) := by rw [zI_uI, if_neg (by omega)]; exact p1
    have eth : zI (uI Mc 13 p 0) (78 + 2 + 2 + 5 * p) (if (k : Int) = 0 then 0 else 1) = (t : Int) := by
      rw [← et]
      have hkk : k = 0 ∨ k = 1 := by omega
      rcases hkk with rfl | rfl
      · rw [if_pos (by omega)]; exact R0.2.2.1 p hp c1 0 (by omega)
      · rw [if_neg (by omega)]; exact R0.2.2.1 p hp c1 1 (by omega)
    rw [if_pos (kdt o hi), if_pos (kdp b78 hp), e3, K_thingOn b78 hp, eth]
    simp only [bindS]
    rw [e95, w32_purse b78 R0 hM (by omega) (by omega), ← eu]
    simp only [bindS]
    rw [w32_id (x := cdiv (a * T (5 * p + 2)) 1000) (by omega) (by omega), w32_id (x := a + cdiv (a * T (5 * p + 2)) 1000) (by omega) (by omega), w32_id (x := -(a + cdiv (a * T (5 * p + 2)) 1000)) (by omega) (by omega), show -(a + cdiv (a * T (5 * p + 2)) 1000) = -a - cdiv (a * T (5 * p + 2)) 1000 by omega, e3, e95, if_pos (kdt o hi), e1']
    simp only [bindS]
    rfl
  -- the reference
  generalize eM2 : uI Mr 20 46 ((if m / 2 ^ p % 2 = 1 then m - 2 ^ p else m : Nat) : Int) = Mr1
  have f2 : ∀ x, x ≠ 20 → sameH Mr Mr1 x := fun x hx => by rw [← eM2]; exact sameH_uI hx
  have f20 : ∀ j, j ≠ 46 → zI Mr1 20 j = zI Mr 20 j := fun j hj => by rw [← eM2, zI_uI, if_neg (by omega)]
  have fl20 : ∀ j, zL Mr1 20 j = zL Mr 20 j := fun j => by rw [← eM2]; rfl
  have f46 : zI Mr1 20 46 = ((if m / 2 ^ p % 2 = 1 then m - 2 ^ p else m : Nat) : Int) := by rw [← eM2, zI_at]
  have RR1 : RepR Mr1 N T L th pe po := RR.f20 (fun x hx => f2 x (by omega)) (fun j hj => f20 j (by omega))
  have K1 : KON Mr1 := K.f20 (fun x hx => f2 x (by omega)) (fun j _ => fl20 j)
  have eR : g_X12_givesBack o a Mr = (if a + cdiv (a * T (5 * p + 2)) 1000 ≤ N (uc T p k per) then ((g_X12_goesOut p per k (-a - cdiv (a * T (5 * p + 2)) 1000) Mr1).bind fun q100 => ((g_X12_shares p k (cdiv (a * T (5 * p + 2)) 1000) q100.2).bind fun q110 => (some ((1 : Int), q110.2)))) else some (0, uI Mr1 20 10 (fz 7 (zI Mr 29 o)))) := by
    unfold g_X12_givesBack g_X12_givesBack_10 g_X12_givesBack_22
    rw [w32_id (x := 4 * (o : Int)) (by omega) (by omega), w32_id (x := 4 * (o : Int) + 1) (by omega) (by omega), if_pos (by omega), if_pos (by omega), show (4 * (o : Int) + 1).toNat = 4 * o + 1 by omega, show (4 * (o : Int)).toNat = 4 * o by omega, ep, ek, l1, mk_clr m l2 p hp, eM2, R_feeOf hp, RR1.2.1 _ (by omega)]
    simp only [bindS]
    rw [w64_id (x := a * T (5 * p + 2)) (by omega) (by omega), R_up fb1.1 (by omega) (by omega) (by omega)]
    simp only [bindS]
    have e43 : zI Mr1 20 43 = (per : Int) := by rw [f20 43 (by omega)]; exact p2
    have e29 : zI Mr1 29 o = zI Mr 29 o := (f2 29 (by omega) o).1
    rw [R_thingOf hp (by omega) (by omega), RR1.2.1 _ (by omega), Int.toNat_natCast, et]
    simp only [bindS]
    rw [e43, R_inPurse (by omega) (by omega), RR1.2.2.1 _ (by omega), ← eu]
    simp only [bindS]
    rw [e43, R_stopb hi, e29, w64_id (x := a + cdiv (a * T (5 * p + 2)) 1000) (by omega) (by omega), w64_id (x := -a) (by omega) (by omega), w64_id (x := -a - cdiv (a * T (5 * p + 2)) 1000) (by omega) (by omega)]
  rw [eK, eR]
  generalize cdiv (a * T (5 * p + 2)) 1000 = fee at *
  by_cases c5 : a + fee ≤ N (uc T p k per)
  case neg =>
    rw [if_neg c5, if_neg c5]
    refine Or.inr ⟨_, _, rfl, rfl, zI_at _ _ _ _, zI_at _ _ _ _, HP.same (fun _ _ => rfl) R.2.2.2.2.2.1, K1.u10 _, fun x h1 h2 h3 => (hM1 x h2).trans (sameH_uI h1), fun x h1 => (f2 x h1).trans (sameH_uI h1), fun j h1 h2 => by rw [zI_uI, if_neg (by omega)]; exact f20 j h2, fun j => fl20 j⟩
  rw [if_pos c5, if_pos c5]
  obtain ⟨M1, a1, R1, F1, _⟩ := K_payOut b78 R0 (per := per) hp c1 hk2 (by omega) hT (x := -a - fee) (v := -a - fee) rfl
  obtain ⟨M2, b1, R2, F2⟩ := R_goesOut RR1 (per := per) hp hk2 (by omega) hT (-a - fee)
  have hrzq : ∀ q w, w < 23 → (w < 2 ∨ 4 ≤ w) → gOut N T p k per (-a - fee) (22 + 23 * q + w) = N (22 + 23 * q + w) := fun q w h1 h2 => gOut_rz hk2 (by omega) hT q h1 h2
  have ez : gOut N T p k per (-a - fee) (22 + 23 * p + 1) = N (22 + 23 * p + 1) := hrzq p 1 (by omega) (by omega)
  have ezw : w32 (gOut N T p k per (-a - fee) (22 + 23 * p + 1)) = N (22 + 23 * p + 1) := by rw [ez, w32_id (by have := hrz.1; omega) (by have := hrz.1; omega)]
  have d2 : zI M1 (38 + o) 2 = (p : Int) := by rw [(F1 (38 + o) (by omega) 2).1, zI_uI, if_neg (by omega)]; exact s1
  have d3 : zI M1 (38 + o) 3 = (k : Int) := by rw [(F1 (38 + o) (by omega) 3).1, zI_uI, if_neg (by omega)]; exact s3
  obtain ⟨M3, a3, R3, F3, _⟩ := K_share b78 R1 W.2.2 hp hk2 c1 (fee := fee) ezw c3
  obtain ⟨M4, b3, R4, F4⟩ := R_share R2 W.2.2 hp hk2 (by rw [ez]; exact hrz.1) fee
  rw [ez] at R4
  rw [a1, b1]
  simp only [bindS]
  rw [d2, d3, a3, b3]
  simp only [bindS]
  have FCc : ∀ x, x ≠ 13 → ¬ (78 ≤ x ∧ x < 78 + 65) → sameH Mc M3 x := fun x h1 h2 => ((hM1 x h1).trans (F1 x h2)).trans (F3 x h2)
  have FRr : ∀ x, x ≠ 20 → x ≠ 23 → sameH Mr M4 x := fun x h1 h2 => ((f2 x h1).trans (F2 x h2)).trans (F4 x h2)
  have F20 : ∀ j, j ≠ 46 → zI M4 20 j = zI Mr 20 j := fun j hj => by rw [(F4 20 (by omega) j).1, (F2 20 (by omega) j).1, f20 j hj]
  have hm := back_money W.2.2 h12 hM hD hp c1 hk2 (show per < 4 by omega) (W.t2 hp c1) hc3 hrz ha (fee := fee) (by omega) hda (by omega)
  have hcell : ∀ q w, w < 23 → (w < 2 ∨ 6 ≤ w) → shN (gOut N T p k per (-a - fee)) T p k fee (22 + 23 * q + w) = N (22 + 23 * q + w) := fun q w h1 h2 => by
    unfold shN
    rw [ud_ne (by unfold hoC; omega)]
    exact hrzq q w h1 (by omega)
  have h00 : shN (gOut N T p k per (-a - fee)) T p k fee 0 = N 0 := by
    unfold shN
    rw [ud_ne (by unfold hoC; omega)]
    exact gOut_0 hk2 (by omega)
  have hkc := mk_clr_has m l2 p hp
  refine Or.inl ⟨M3, M4, shN (gOut N T p k per (-a - fee)) T p k fee, shR T L p (N (22 + 23 * p + 1)) k fee, rfl, rfl, ?_, FCc, FRr, F20, fun j => by rw [(F4 20 (by omega) j).2.1, (F2 20 (by omega) j).2.1, fl20 j]⟩
  refine ⟨R3, R4, (K1.f23 F2).f23 F4, ?_, hm, fun q h1 h2 => ?_, by rw [h00]; exact ht, fun q k' => ?_, ⟨by rw [(FCc 9 (by omega) (by omega) 5).1]; exact p1, by rw [F20 43 (by omega)]; exact p2, p3⟩, ⟨by rw [(F4 20 (by omega) 46).1, (F2 20 (by omega) 46).1]; exact f46, mk_clr_lt m l2 p hp, fun q hq => ?_⟩, fun q hq hb => ?_, fun q hq hb => ?_⟩
  · refine ⟨?_, fun q h1 h2 => ⟨(W.2.1 q h1 h2).1, ?_⟩, shR_ok W.2.2 p _ k fee⟩
    · rcases W.1 with ⟨w1, w2, w3, w4⟩ | w
      · omega
      · exact Or.inr w
    · have := (W.2.1 q h1 h2).2
      unfold Rz at *
      have e0 := hcell q 0 (by omega) (by omega)
      rw [Nat.add_zero] at e0
      rw [e0, hcell q 1 (by omega) (by omega)]
      exact this
  · have mq := hk q h1 h2
    have e4 : ∀ w, w < 23 → 6 ≤ w → shN (gOut N T p k per (-a - fee)) T p k fee (22 + 23 * q + w) = N (22 + 23 * q + w) := fun w w1 w2 => hcell q w w1 (Or.inr w2)
    obtain ⟨n1, n2, n3, n4⟩ := mq
    have e6 := e4 6 (by omega) (by omega)
    refine ⟨by rw [e6]; exact n1, by rw [e4 7 (by omega) (by omega), e4 8 (by omega) (by omega)]; exact n2, fun j hj => ?_, fun j hj => ?_⟩
    · rw [e6] at hj
      rw [e4 (7 + 2 * j) (by omega) (by omega), e4 (7 + 2 * (j + 1)) (by omega) (by omega), e4 (8 + 2 * j) (by omega) (by omega), e4 (8 + 2 * (j + 1)) (by omega) (by omega)]
      exact n3 j hj
    · rw [e6] at hj
      rw [e4 (7 + 2 * j) (by omega) (by omega), h00]
      exact n4 j hj
  · show (if q = p ∧ k' = k then 0 else D q k') ≤ 39999996
    split
    · omega
    · exact hD q k'
  · have e13 : zI M3 13 q = if q = p then 0 else zI Mc 13 q := by
      rw [(F3 13 (by omega) q).1, (F1 13 (by omega) q).1, zI_uI]
      by_cases c : q = p
      · rw [if_pos ⟨rfl, c⟩, if_pos c]
      · rw [if_neg (fun z => c z.2), if_neg c]
    rw [e13, l3 q hq]
    by_cases c : q = p
    · rw [if_pos c, if_neg (fun z => ((hkc q hq).1 z).2 c)]
    · rw [if_neg c]
      by_cases c' : m / 2 ^ q % 2 = 1
      · rw [if_pos c', if_pos ((hkc q hq).2 ⟨c', c⟩)]
      · rw [if_neg c', if_neg (fun z => c' ((hkc q hq).1 z).1)]
  · obtain ⟨z1, z2⟩ := l4 q hq ((hkc q hq).1 hb).1
    rw [hcell q 1 (by omega) (by omega), dep_shR]
    exact ⟨z1, z2⟩
  · show (if q = p ∧ 0 = k then 0 else D q 0) = 0 ∧ (if q = p ∧ 1 = k then 0 else D q 1) = 0
    by_cases c : q = p
    · rw [c]
      have hkk : k = 0 ∨ k = 1 := by omega
      rcases hkk with e | e
      · rw [e] at hd1 ⊢
        rw [if_pos ⟨rfl, rfl⟩, if_neg (by omega)]
        exact ⟨rfl, hd1⟩
      · rw [e] at hd1 ⊢
        rw [if_neg (by omega), if_pos ⟨rfl, rfl⟩]
        exact ⟨hd1, rfl⟩
    · rw [if_neg (fun z => c z.1), if_neg (fun z => c z.1)]
      exact l5 q hq (fun z => hb ((hkc q hq).2 ⟨z, c⟩))
end LB
