/-! loans and brackets, side by side -/
theorem K_openB {M : MZ} {dp at' : Nat} (hd : dp < 4) (ha : at' < 41) (h7 : zI M 9 7 = dp) (h6 : zI M 9 6 = ((at' + 1 : Nat) : Int)) (x y : Int) : g_X5_openBracket x y M = some ((), uI (uI (uI (uI M 10 dp at') 11 dp x) 12 dp y) 9 7 ((dp + 1 : Nat) : Int)) := by
  have hb : (0 : Int) ≤ (dp : Int) ∧ (dp : Int) < ((4 : Nat) : Int) := by omega
  have e1 : ∀ v : Int, zI (uI M 10 dp v) 9 7 = (dp : Int) := fun v => by rw [zI_uI, if_neg (by omega)]; exact h7
  have e2 : ∀ v w : Int, zI (uI (uI M 10 dp v) 11 dp w) 9 7 = (dp : Int) := fun v w => by rw [zI_uI, if_neg (by omega)]; exact e1 v
  have e3 : ∀ v w u : Int, zI (uI (uI (uI M 10 dp v) 11 dp w) 12 dp u) 9 7 = (dp : Int) := fun v w u => by rw [zI_uI, if_neg (by omega)]; exact e2 v w
  unfold g_X5_openBracket g_X5_openBracket_42 g_X5_openBracket_52 g_X5_canOpen g_X5_canOpen_24
  rw [h7, if_neg (by omega), if_neg (by omega), if_pos (Or.inr rfl)]
  simp only [bindS]
  rw [if_neg (show ¬ (1 : Int) = 0 by omega), h7, h6, if_pos hb, Int.toNat_natCast, w32_id (x := ((at' + 1 : Nat) : Int) - 1) (by omega) (by omega), show ((at' + 1 : Nat) : Int) - 1 = (at' : Int) by omega, e1, if_pos hb, Int.toNat_natCast, e2, if_pos hb, Int.toNat_natCast, e3, w32_id (x := (dp : Int) + 1) (by omega) (by omega), show (dp : Int) + 1 = ((dp + 1 : Nat) : Int) by omega]
theorem R_goesI {M : MZ} {dp : Nat} (hd : dp < 4) (h50 : zI M 20 50 = dp) (i x y : Int) : g_X12_goesInto i x y M = some ((), uI (uL (uI (uI M 35 dp i) 36 dp x) 37 dp y) 20 50 ((dp + 1 : Nat) : Int)) := by
  have hb : (0 : Int) ≤ (dp : Int) ∧ (dp : Int) < ((4 : Nat) : Int) := by omega
  have e1 : ∀ v : Int, zI (uI M 35 dp v) 20 50 = (dp : Int) := fun v => by rw [zI_uI, if_neg (by omega)]; exact h50
  have e2 : ∀ v w : Int, zI (uI (uI M 35 dp v) 36 dp w) 20 50 = (dp : Int) := fun v w => by rw [zI_uI, if_neg (by omega)]; exact e1 v
  have e3 : ∀ v w u : Int, zI (uL (uI (uI M 35 dp v) 36 dp w) 37 dp u) 20 50 = (dp : Int) := fun v w u => by rw [zI_uL]; exact e2 v w
  unfold g_X12_goesInto g_X12_goesInto_30
  rw [h50, if_pos hb, Int.toNat_natCast, e1, if_pos hb, Int.toNat_natCast, e2, if_pos hb, Int.toNat_natCast, e3, w32_id (x := (dp : Int) + 1) (by omega) (by omega), show (dp : Int) + 1 = ((dp + 1 : Nat) : Int) by omega]
def FCT (M M' : MZ) : Prop := ∀ x, x ≠ 4 → ¬ (9 ≤ x ∧ x ≤ 13) → ¬ (78 ≤ x ∧ x < 78 + 65) → sameH M M' x
def FRT (M M' : MZ) : Prop := (∀ x, x ≠ 20 → x ≠ 23 → x ≠ 24 → ¬ (35 ≤ x ∧ x ≤ 37) → sameH M M' x) ∧ (∀ k, k ≠ 10 → k ≠ 33 → k ≠ 44 → k ≠ 46 → k ≠ 50 → zI M' 20 k = zI M 20 k) ∧ (∀ k, k < 29 → zL M' 20 k = zL M 20 k) ∧ (∀ k, 258 ≤ k → zL M' 24 k = zL M 24 k)
theorem FCT.trans {M M' M'' : MZ} (a : FCT M M') (b : FCT M' M'') : FCT M M'' := fun x h1 h2 h3 => (a x h1 h2 h3).trans (b x h1 h2 h3)
theorem FRT.trans {M M' M'' : MZ} (a : FRT M M') (b : FRT M' M'') : FRT M M'' := ⟨fun x h1 h2 h3 h4 => (a.1 x h1 h2 h3 h4).trans (b.1 x h1 h2 h3 h4), fun k h1 h2 h3 h4 h5 => (b.2.1 k h1 h2 h3 h4 h5).trans (a.2.1 k h1 h2 h3 h4 h5), fun k h => (b.2.2.1 k h).trans (a.2.2.1 k h), fun k h => (b.2.2.2 k h).trans (a.2.2.2 k h)⟩
theorem FCA.t {M M' : MZ} (a : FCA M M') : FCT M M' := fun x h1 h2 h3 => a.1 x h1 (by omega) h3
theorem FRA.t {M M' : MZ} (a : FRA M M') : FRT M M' := ⟨fun x h1 h2 h3 _ => a.1 x h1 h2 h3, fun k h1 h2 _ _ _ => a.2.1 k h1 h2, a.2.2.1, a.2.2.2⟩
section LN
variable {Mc Mr : MZ} {N T : Nat → Int} {L : List (Nat → Int)} {th pe po : Int} {D : Nat → Nat → Int} {m per i : Nat}
/-- what a loan leaves behind -/
def LND (Mc Mr : MZ) (N T : Nat → Int) (L : List (Nat → Int)) (th pe po : Int) (D : Nat → Nat → Int) (m per i dp : Nat) (Mc' Mr' : MZ) : Prop :=
  ∃ (p k : Nat) (a : Int), p < 5 ∧ k < 2 ∧ zI Mr 30 (4 * i) = p ∧ zI Mr 30 (4 * i + 1) = k ∧ ¬ (m / 2 ^ p % 2 = 1) ∧ (1 ≤ a ∧ a ≤ 39999996) ∧ CR Mc' Mr' (gOut N T p k per a) T L th pe po (fun q k' => if q = p ∧ k' = k then a else D q k') (if m / 2 ^ p % 2 = 1 then m else m + 2 ^ p) per ∧ FCT Mc Mc' ∧ FRT Mr Mr' ∧
  (zI Mc' 9 7 = ((dp + 1 : Nat) : Int) ∧ zI Mc' 10 dp = i ∧ zI Mc' 12 dp = a ∧ (∀ j, j ≠ 7 → zI Mc' 9 j = zI Mc 9 j) ∧ zL Mc' 9 8 = zL Mc 9 8 ∧ ∀ j, j ≠ dp → zI Mc' 10 j = zI Mc 10 j ∧ zI Mc' 11 j = zI Mc 11 j ∧ zI Mc' 12 j = zI Mc 12 j) ∧
  (zI Mr' 20 50 = ((dp + 1 : Nat) : Int) ∧ zI Mr' 35 dp = i ∧ zI Mr' 36 dp = 1 ∧ zL Mr' 37 dp = a ∧ zI Mr' 20 44 = zI Mr 20 44 ∧ zL Mr' 20 45 = zL Mr 20 45 ∧ ∀ j, j ≠ dp → zI Mr' 35 j = zI Mr 35 j ∧ zI Mr' 36 j = zI Mr 36 j ∧ zL Mr' 37 j = zL Mr 37 j)
theorem a_lend (h : CR Mc Mr N T L th pe po D m per) (hi : i < 40) (hs : PSp Mc Mr i) (hu : MUp Mc Mr i) (hk5 : zI Mr 28 i = 5) {g : Int} (g1 : zL Mc 9 8 = g) (g2 : zL Mr 20 45 = g) (hg : 0 ≤ g ∧ g ≤ 1000000000000) {dp : Nat} (hdp : dp < 4) (c7 : zI Mc 9 7 = dp) (c6 : zI Mc 9 6 = ((i + 1 : Nat) : Int)) (r50 : zI Mr 20 50 = dp) : (∃ Mc' Mr', g_X5_doLend (38 + i) Mc = some (1, Mc') ∧ g_X12_lends i Mr = some (1, Mr') ∧ LND Mc Mr N T L th pe po D m per i dp Mc' Mr') ∨ (g_X5_doLend (38 + i) Mc = some (0, Mc) ∧ g_X12_lends i Mr = some (0, uI Mr 20 10 (fz 5 (zI Mr 29 i)))) := by
  have h' := h
  obtain ⟨R, RR, K, W, hM, hk, ht, hD, ⟨p1, p2, p3⟩, ⟨l1, l2, l3⟩, l4, l5⟩ := h'
  have hpe := W.1.r
  obtain ⟨s1, s2, s3, s4⟩ := hs
  obtain ⟨p, ep⟩ := zR_nat s2.1
  obtain ⟨k, ek⟩ := zR_nat s4.1
  rw [ep] at s1 s2
  rw [ek] at s3 s4
  have hp : p < 5 := by omega
  have hk2 : k < 2 := by omega
  have eR : g_X12_lends i Mr = g_X12_lends_20 i p k Mr := by
    unfold g_X12_lends g_X12_lends_9
    rw [w32_id (x := 4 * (i : Int)) (by omega) (by omega), w32_id (x := 4 * (i : Int) + 1) (by omega) (by omega), if_pos (by omega), if_pos (by omega), show (4 * (i : Int) + 1).toNat = 4 * i + 1 by omega, show (4 * (i : Int)).toNat = 4 * i by omega, ep, ek]
  rw [eR]
  unfold g_X12_lends_20 g_X12_lends_74 g_X5_doLend g_X5_doLend_47 g_X5_doLend_88
  rw [if_pos (kdt i hi), s1, R_isOpen h hp]
  simp only [bindS]
  by_cases c1 : (p : Int) < po
  case neg =>
    refine Or.inr ⟨?_, ?_⟩
    · rw [K_poolAt_n b78 (by rw [R.1.2.2.1]; omega)]
      simp only [bindS]
      rw [if_pos trivial]
    · rw [if_neg (show ¬ ((p : Int) < po ∧ ¬ (m / 2 ^ p % 2 = 1)) from fun q => c1 q.1), if_pos (show (0 : Int) = 0 from rfl), R_stopb hi]
  rw [K_poolAt_y b78 hp (by rw [R.1.2.2.1]; exact c1)]
  simp only [bindS]
  rw [if_neg (show ¬ 78 + 2 + 2 + 5 * p = 0 by omega), s1, K_isLocked h hp]
  simp only [bindS]
  by_cases c2 : m / 2 ^ p % 2 = 1
  · refine Or.inr ⟨?_, ?_⟩
    · rw [if_pos c2, if_neg (show ¬ (1 : Int) = 0 by omega)]
    · rw [if_neg (show ¬ ((p : Int) < po ∧ ¬ (m / 2 ^ p % 2 = 1)) from fun q => q.2 c2), if_pos (show (0 : Int) = 0 from rfl), R_stopb hi]
  have hT := (W.t2 hp c1).k hk2
  have hrz := (W.2.1 p hp c1).2
  have hheld : 0 ≤ N (22 + 23 * p + (2 + k)) ∧ N (22 + 23 * p + (2 + k)) ≤ 39999996 := ⟨(hM.2.1 p k hp c1 hk2).2.1, hM.bp hp c1 hk2 hT⟩
  have eheld : zI Mc (78 + 2 + 2 + 5 * p + 1) k = N (22 + 23 * p + (2 + k)) := by rw [K_held R hp c1 hk2, w32_id (by omega) (by omega)]
  have ezone : zI Mc (78 + 2 + 2 + 5 * p) 6 = N (22 + 23 * p + 1) := by rw [K_zone R hp c1, w32_id (by have := hrz.1; omega) (by have := hrz.1; omega)]
  have hdep := dep_r W.2.2 R.2.2.2.2.2.2 p (N (22 + 23 * p + 1))
  rw [if_neg c2, if_pos (show (0 : Int) = 0 from rfl), if_pos (show (p : Int) < po ∧ ¬ (m / 2 ^ p % 2 = 1) from ⟨c1, c2⟩), if_neg (show ¬ (1 : Int) = 0 by omega), if_pos (kdp b78 hp), ezone, s1, K_liq b78 R W.2.2, R_much h hi hu hp c1 hk2 ep ek g2, if_neg (show ¬ zI Mr 28 i = 0 by omega), if_neg (show ¬ zI Mr 28 i = 1 by omega)]
  simp only [bindS]
  rw [w32_id (x := 2 + (k : Int)) (by omega) (by omega), R_pool RR hp (by omega) (by omega), show (2 + (k : Int)).toNat = 2 + k by omega]
  simp only [bindS]
  rw [R_isIn]
  simp only [bindS, bI_0]
  rw [R_zone RR hp hrz.1]
  simp only [bindS]
  rw [R_depthOf RR W.2.2]
  simp only [bindS]
  rw [s3, K_heldOn (kdp b78 hp)]
  simp only [bindS]
  rw [if_pos (show (k : Int) = 0 ∨ (k : Int) = 1 by omega), Int.toNat_natCast, eheld, K_much hi hu g1]
  simp only [bindS]
  generalize muc Mr i g (N (22 + 23 * p + (2 + k))) = a at *
  by_cases c3 : 1 ≤ dep L p (N (22 + 23 * p + 1))
  case neg =>
    refine Or.inr ⟨by rw [if_neg c3], ?_⟩
    by_cases c4 : 1 ≤ a ∧ a ≤ N (22 + 23 * p + (2 + k))
    · rw [if_neg (show ¬ ¬ (1 ≤ a ∧ a ≤ N (22 + 23 * p + (2 + k))) from fun q => q c4), if_pos (by omega), R_stopb hi]
    · rw [if_pos c4, R_stopb hi]
  rw [if_pos c3]
  by_cases c4 : 1 ≤ a ∧ a ≤ N (22 + 23 * p + (2 + k))
  case neg =>
    refine Or.inr ⟨?_, by rw [if_pos c4, R_stopb hi]⟩
    by_cases c5 : a < 1
    · rw [if_pos c5]
    · rw [if_neg c5, if_pos (by omega)]
  have eop : g_X5_canOpen Mc = some (1, Mc) := by
    unfold g_X5_canOpen g_X5_canOpen_24
    rw [c7, if_neg (by omega), if_neg (by omega), if_pos (Or.inr rfl)]
  rw [if_neg (show ¬ a < 1 by omega), if_neg (show ¬ N (22 + 23 * p + (2 + k)) < a by omega), eop, if_neg (show ¬ ¬ (1 ≤ a ∧ a ≤ N (22 + 23 * p + (2 + k))) from fun q => q c4), if_neg (show ¬ dep L p (N (22 + 23 * p + 1)) = 0 by omega), p2]
  simp only [bindS]
  rw [if_neg (show ¬ (1 : Int) = 0 by omega), s3, p1, w32_id (x := a) (by omega) (by omega)]
  obtain ⟨M1, a1, R1, F1, _⟩ := K_payOut b78 R (per := per) hp c1 hk2 (by omega) hT (x := a) (v := a) rfl
  obtain ⟨M2, b1, R2, F2⟩ := R_goesOut RR (per := per) hp hk2 (by omega) hT a
  rw [a1, b1]
  simp only [bindS]
  have d2 : zI M1 (38 + i) 2 = (p : Int) := by rw [(F1 (38 + i) (by omega) 2).1]; exact s1
  have elk : g_X5_setLocked (zI M1 (38 + i) 2) 1 M1 = some ((), uI M1 13 p 1) := by
    unfold g_X5_setLocked g_X5_setLocked_20
    rw [d2, if_neg (by omega), if_neg (by omega), if_pos (by omega), if_pos (Or.inr rfl), Int.toNat_natCast]
  have r46 : zI M2 20 46 = m := by rw [(F2 20 (by omega) 46).1]; exact l1
  rw [elk, r46, mk_set m l2 p hp]
  simp only [bindS]
  rw [K_openB (dp := dp) (at' := i) hdp (by omega) (by rw [zI_uI, if_neg (by omega), (F1 9 (by omega) 7).1]; exact c7) (by rw [zI_uI, if_neg (by omega), (F1 9 (by omega) 6).1]; exact c6), R_goesI (dp := dp) hdp (by rw [zI_uI, if_neg (by omega), (F2 20 (by omega) 50).1]; exact r50)]
  simp only [bindS]
  generalize eMc' : uI (uI (uI (uI (uI M1 13 p 1) 10 dp (i : Int)) 11 dp 0) 12 dp a) 9 7 ((dp + 1 : Nat) : Int) = Mc'
  generalize eMr' : uI (uL (uI (uI (uI M2 20 46 (((if m / 2 ^ p % 2 = 1 then m else m + 2 ^ p : Nat)) : Int)) 35 dp (i : Int)) 36 dp 1) 37 dp a) 20 50 ((dp + 1 : Nat) : Int) = Mr'
  have fc : ∀ x, ¬ (9 ≤ x ∧ x ≤ 13) → sameH M1 Mc' x := fun x hx => by
    rw [← eMc']
    exact ((((sameH_uI (by omega)).trans (sameH_uI (by omega))).trans (sameH_uI (by omega))).trans (sameH_uI (by omega))).trans (sameH_uI (by omega))
  have fr : ∀ x, x ≠ 20 → ¬ (35 ≤ x ∧ x ≤ 37) → sameH M2 Mr' x := fun x h1 hx => by
    rw [← eMr']
    exact ((((sameH_uI (by omega)).trans (sameH_uI (by omega))).trans (sameH_uI (by omega))).trans (sameH_uL (by omega))).trans (sameH_uI (by omega))
  have z9 : ∀ j, j ≠ 7 → zI Mc' 9 j = zI Mc 9 j := fun j hj => by rw [← eMc', zI_uI, if_neg (by omega), zI_uI, if_neg (by omega), zI_uI, if_neg (by omega), zI_uI, if_neg (by omega), zI_uI, if_neg (by omega), (F1 9 (by omega) j).1]
  have z13 : ∀ j, zI Mc' 13 j = if j = p then 1 else zI Mc 13 j := fun j => by
    rw [← eMc', zI_uI, if_neg (by omega), zI_uI, if_neg (by omega), zI_uI, if_neg (by omega), zI_uI, if_neg (by omega), zI_uI]
    by_cases c : j = p
    · rw [if_pos ⟨rfl, c⟩, if_pos c]
    · rw [if_neg (fun q => c q.2), if_neg c, (F1 13 (by omega) j).1]
  have z20 : ∀ j, j ≠ 46 → j ≠ 50 → zI Mr' 20 j = zI Mr 20 j := fun j h1 h2 => by rw [← eMr', zI_uI, if_neg (by omega), zI_uL, zI_uI, if_neg (by omega), zI_uI, if_neg (by omega), zI_uI, if_neg (by omega), (F2 20 (by omega) j).1]
  have z46 : zI Mr' 20 46 = ((if m / 2 ^ p % 2 = 1 then m else m + 2 ^ p : Nat) : Int) := by rw [← eMr', zI_uI, if_neg (by omega), zI_uL, zI_uI, if_neg (by omega), zI_uI, if_neg (by omega), zI_at]
  have zl20 : ∀ j, zL Mr' 20 j = zL Mr 20 j := fun j => by rw [← eMr', zL_uI, zL_uL, if_neg (by omega), zL_uI, zL_uI, zL_uI, (F2 20 (by omega) j).2.1]
  have K' : KON Mr' := (K.f23 F2).f20 (fun x hx => fr x (by omega) (by omega)) (fun j _ => by rw [zl20, (F2 20 (by omega) j).2.1])
  have hbit := mk_has m l2 p hp
  have hdk : D p k = 0 := by
    have h5 := l5 p hp c2
    have hkk : k = 0 ∨ k = 1 := by omega
    rcases hkk with e | e
    · rw [e]; exact h5.1
    · rw [e]; exact h5.2
  have hm := lend_money hM hp c1 hk2 (show per < 4 by omega) (W.t2 hp c1) (a := a) (by show 1 ≤ a ∧ a ≤ N (22 + 23 * p + (2 + k)); exact c4) hdk
  have hrzq : ∀ q w, w < 23 → (w < 2 ∨ 4 ≤ w) → gOut N T p k per a (22 + 23 * q + w) = N (22 + 23 * q + w) := fun q w h1 h2 => gOut_rz hk2 (by omega) hT q h1 h2
  have W' : WF (gOut N T p k per a) T L th pe po := by
    refine ⟨W.1, fun q h1 h2 => ⟨(W.2.1 q h1 h2).1, ?_⟩, W.2.2⟩
    have := (W.2.1 q h1 h2).2
    unfold Rz at *
    have e0 := hrzq q 0 (by omega) (by omega)
    rw [Nat.add_zero] at e0
    rw [e0, hrzq q 1 (by omega) (by omega)]
    exact this
  refine Or.inl ⟨Mc', Mr', rfl, rfl, p, k, a, hp, hk2, ep, ek, c2, by omega, ?_, fun x h1 h2 h3 => (F1 x h3).trans (fc x h2), ⟨fun x h1 h2 _ h4 => (F2 x h2).trans (fr x h1 h4), fun j h1 h2 h3 h4 h5 => z20 j h4 h5, fun j _ => zl20 j, fun j _ => by rw [(fr 24 (by omega) (by omega) j).2.1, (F2 24 (by omega) j).2.1]⟩, ⟨by rw [← eMc', zI_at], by rw [← eMc', zI_uI, if_neg (by omega), zI_uI, if_neg (by omega), zI_uI, if_neg (by omega), zI_at], by rw [← eMc', zI_uI, if_neg (by omega), zI_at], z9, by rw [← eMc', zL_uI, zL_uI, zL_uI, zL_uI, zL_uI, (F1 9 (by omega) 8).2.1], fun j hj => ⟨?_, ?_, ?_⟩⟩, ⟨by rw [← eMr', zI_at], ?_, ?_, ?_, z20 44 (by omega) (by omega), zl20 45, fun j hj => ⟨?_, ?_, ?_⟩⟩⟩
  · refine ⟨R1.same (fun x h1 h2 => fc x (by omega)), R2.f20 (fun x hx => fr x (by omega) (by omega)) (fun j hj => by rw [z20 j (by omega) (by omega), (F2 20 (by omega) j).1]), K', W', hm, fun q h1 h2 => Mrk_cg (gOut_0 hk2 (by omega)) (fun w w1 w2 => hrzq q w w1 (Or.inr w2)) (hk q h1 h2), by rw [gOut_0 hk2 (by omega)]; exact ht, fun q k' => ?_, ⟨by rw [z9 5 (by omega)]; exact p1, by rw [z20 43 (by omega) (by omega)]; exact p2, p3⟩, ⟨z46, mk_lt m l2 p hp, fun q hq => ?_⟩, fun q hq hb => ?_, fun q hq hb => ?_⟩
    · show (if q = p ∧ k' = k then a else D q k') ≤ 39999996
      split
      · omega
      · exact hD q k'
    · rw [z13 q, l3 q hq]
      by_cases c : q = p
      · rw [if_pos c, if_pos ((hbit q hq).2 (Or.inr c))]
      · rw [if_neg c]
        by_cases c' : m / 2 ^ q % 2 = 1
        · rw [if_pos c', if_pos ((hbit q hq).2 (Or.inl c'))]
        · rw [if_neg c', if_neg (fun z => by rcases (hbit q hq).1 z with z | z; exact c' z; exact c z)]
    · rw [hrzq q 1 (by omega) (by omega)]
      rcases (hbit q hq).1 hb with z | z
      · exact l4 q hq z
      · rw [z]; exact ⟨c1, c3⟩
    · have n1 : q ≠ p := fun z => hb ((hbit q hq).2 (Or.inr z))
      have n2 := l5 q hq (fun z => hb ((hbit q hq).2 (Or.inl z)))
      show (if q = p ∧ 0 = k then a else D q 0) = 0 ∧ (if q = p ∧ 1 = k then a else D q 1) = 0
      rw [if_neg (fun z => n1 z.1), if_neg (fun z => n1 z.1)]
      exact n2
  · rw [← eMc', zI_uI, if_neg (by omega), zI_uI, if_neg (by omega), zI_uI, if_neg (by omega), zI_uI, if_neg (by omega), zI_uI, if_neg (by omega), (F1 10 (by omega) j).1]
  · rw [← eMc', zI_uI, if_neg (by omega), zI_uI, if_neg (by omega), zI_uI, if_neg (by omega), zI_uI, if_neg (by omega), zI_uI, if_neg (by omega), (F1 11 (by omega) j).1]
  · rw [← eMc', zI_uI, if_neg (by omega), zI_uI, if_neg (by omega), zI_uI, if_neg (by omega), zI_uI, if_neg (by omega), zI_uI, if_neg (by omega), (F1 12 (by omega) j).1]
  · rw [← eMr', zI_uI, if_neg (by omega), zI_uL, zI_uI, if_neg (by omega), zI_at]
  · rw [← eMr', zI_uI, if_neg (by omega), zI_uL, zI_at]
  · rw [← eMr', zL_uI, zL_at]
  · rw [← eMr', zI_uI, if_neg (by omega), zI_uL, zI_uI, if_neg (by omega), zI_uI, if_neg (by omega), zI_uI, if_neg (by omega), (F2 35 (by omega) j).1]
  · rw [← eMr', zI_uI, if_neg (by omega), zI_uL, zI_uI, if_neg (by omega), zI_uI, if_neg (by omega), zI_uI, if_neg (by omega), (F2 36 (by omega) j).1]
  · rw [← eMr', zL_uI, zL_uL, if_neg (by omega), zL_uI, zL_uI, zL_uI, (F2 37 (by omega) j).2.1]
end LN
