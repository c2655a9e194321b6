/-! bundle, both -/
theorem K_start5_loop : ∀ (d i f : Nat) (M : MZ), i + d = 5 → d < f → (∀ q, q < i → zI M 13 q = 0) → ∃ M', g_X5_start_32 f i M = some ((), M') ∧ (∀ x, x ≠ 13 → sameH M M' x) ∧ ∀ q, q < 5 → zI M' 13 q = 0 := by
  intro d
  induction d with
  | zero =>
    intro i f M hi hf h
    obtain ⟨f, rfl⟩ : ∃ g, f = g + 1 := ⟨f - 1, by omega⟩
    have e : g_X5_start_32 (f + 1) i M = g_X5_start_32B (g_X5_start_32 f) i M := rfl
    rw [e]
    unfold g_X5_start_32B
    rw [if_pos (by omega)]
    exact ⟨M, rfl, fun _ _ => sameH.rfl, fun q hq => h q (by omega)⟩
  | succ d ih =>
    intro i f M hi hf h
    obtain ⟨f, rfl⟩ : ∃ g, f = g + 1 := ⟨f - 1, by omega⟩
    have e : g_X5_start_32 (f + 1) i M = g_X5_start_32B (g_X5_start_32 f) i M := rfl
    rw [e]
    unfold g_X5_start_32B
    rw [if_neg (by omega), if_pos (by omega), Int.toNat_natCast, w32_id (x := (i : Int) + 1) (by omega) (by omega), show (i : Int) + 1 = ((i + 1 : Nat) : Int) by omega]
    obtain ⟨M', a1, a2, a3⟩ := ih (i + 1) f (uI M 13 i 0) (by omega) (by omega) (fun q hq => by
      rw [zI_uI]
      by_cases c : q = i
      · rw [if_pos ⟨rfl, c⟩]
      · rw [if_neg (fun z => c z.2)]; exact h q (by omega))
    exact ⟨M', a1, fun x hx => (sameH_uI hx).trans (a2 x hx), a3⟩
theorem K_start5 (M : MZ) (p : Int) : ∃ M', g_X5_start p M = some ((), M') ∧ (∀ x, x ≠ 9 → x ≠ 13 → sameH M M' x) ∧ (zI M' 9 5 = p ∧ zI M' 9 0 = 0 ∧ zI M' 9 1 = 0 ∧ zI M' 9 6 = 0 ∧ zI M' 9 7 = 0 ∧ zL M' 9 8 = 0) ∧ ∀ q, q < 5 → zI M' 13 q = 0 := by
  unfold g_X5_start g_X5_start_15 g_X5_start_30
  generalize eM : uL (uI (uI (uI (uI (uI M 9 5 p) 9 0 0) 9 1 0) 9 6 0) 9 7 0) 9 8 0 = M1
  obtain ⟨M', a1, a2, a3⟩ := K_start5_loop 5 0 100000 M1 (by omega) (by omega) (fun q hq => by omega)
  rw [show ((0 : Nat) : Int) = 0 from rfl] at a1
  have s9 := a2 9 (by omega)
  refine ⟨M', a1, fun x h1 h2 => ?_, ⟨?_, ?_, ?_, ?_, ?_, ?_⟩, a3⟩
  · refine sameH.trans ?_ (a2 x h2)
    rw [← eM]
    exact (((((sameH_uI h1).trans (sameH_uI h1)).trans (sameH_uI h1)).trans (sameH_uI h1)).trans (sameH_uI h1)).trans (sameH_uL h1)
  · rw [(s9 5).1, ← eM]; rfl
  · rw [(s9 0).1, ← eM]; rfl
  · rw [(s9 1).1, ← eM]; rfl
  · rw [(s9 6).1, ← eM]; rfl
  · rw [(s9 7).1, ← eM]; rfl
  · rw [(s9 8).2.1, ← eM]; rfl
section BB
variable {n : Nat} {B : Nat → Int} {M X : MZ} {N T : Nat → Int} {L : List (Nat → Int)} {th pe po : Int}
theorem bun_both (b : BO n B) (hTC : TC n B M) (R : Rep true M 78 N T L th pe po) (W : WF N T L th pe po) (hM : Mny N T L po) (hk : ∀ p : Nat, p < 5 → (p : Int) < po → Mrk N p) (ht : 0 ≤ N 0 ∧ N 0 ≤ 9999999) (hH : HP M 143) {per : Nat} (hper : (per : Int) < pe) (hTR : TR n B X) (RX : RepR X N T L th pe po) (KX : KON X) :
    ∃ (r : Int) (MF My : MZ) (N' : Nat → Int) (L' : List (Nat → Int)), g_X11_bundle per M = some (r, MF) ∧ g_X12_bundle per X = some (r, My) ∧ (∀ x, (20 ≤ x ∧ x < 38) ∨ x = 3 → sameH M MF x) ∧ (∀ x, x ≠ 20 → ¬ (23 ≤ x ∧ x ≤ 24) → ¬ (28 ≤ x ∧ x ≤ 37) → sameH X My x) ∧ Rep true MF 78 N' T L' th pe po ∧ HP MF 143 ∧ zI MF 2 0 = 0 ∧ RepR My N' T L' th pe po ∧ KON My ∧ zI My 20 8 = 0 ∧ WF N' T L' th pe po ∧ Mny N' T L' po ∧ (∀ p : Nat, p < 5 → (p : Int) < po → Mrk N' p) ∧ (0 ≤ N' 0 ∧ N' 0 ≤ 9999999) := by
  have hpe := W.1.r
  generalize eC1 : uI (uI (uI (uI M 2 5 0) 2 1 0) 6 0 0) 6 4 0 = C1
  generalize eX1 : uI (uI (uI X 20 9 0) 20 34 0) 20 42 0 = X1
  have CC : CB M C1 := by
    rw [← eC1]
    exact ⟨fun x h1 h2 _ _ => (((sameH_uI h1).trans (sameH_uI h1)).trans (sameH_uI h2)).trans (sameH_uI h2), by rw [zI_uI, if_neg (by omega), zI_uI, if_neg (by omega), zI_uI, if_neg (by omega), zI_uI, if_neg (by omega)]⟩
  have RR1 : RB X X1 := by
    rw [← eX1]
    exact ⟨fun x h1 h2 h3 => ((sameH_uI h1).trans (sameH_uI h1)).trans (sameH_uI h1), fun k h1 h2 h3 h4 h5 => by rw [zI_uI, if_neg (by omega), zI_uI, if_neg (by omega), zI_uI, if_neg (by omega)], fun _ => rfl⟩
  have S1 : SR n B 0 C1 X1 := by
    refine ⟨⟨by rw [CC.2]; exact hTC.1, fun k hk' => by rw [(CC.1 3 (by omega) (by omega) (by omega) (by omega) k).1]; exact hTC.2 k hk'⟩, ⟨by rw [RR1.2.1 8 (by omega) (by omega) (by omega) (by omega) (by omega)]; exact hTR.1, fun k hk' => by rw [(RR1.1 25 (by omega) (by omega) (by omega) k).1]; exact hTR.2 k hk'⟩, ?_, ?_, by omega⟩
    · rw [← eC1, zI_uI, if_neg (by omega), zI_uI, if_neg (by omega), zI_uI, if_neg (by omega), zI_at]; rfl
    · rw [← eX1, zI_uI, if_neg (by omega), zI_uI, if_neg (by omega), zI_at]; rfl
  have P1 : SP C1 X1 0 0 := by
    refine ⟨⟨?_, ?_, by omega⟩, ⟨by rw [← eC1, zI_at]; rfl, by rw [← eX1, zI_at]; rfl, by omega⟩, fun i hi => by omega, fun j hj => by omega, ⟨fun j hj => by omega, fun j hj => by omega, fun i hi => by omega, fun _ => 0, fun j hj => by omega, fun i hi => by omega, fun i i' h1 h2 => by omega⟩⟩
    · rw [← eC1, zI_uI, if_neg (by omega), zI_at]; rfl
    · rw [← eX1, zI_uI, if_neg (by omega), zI_at]; rfl
  obtain ⟨fl, Mc1, Mr1, s1, s2, s3, s4, s5⟩ := sim_read b 40 0 0 0 100000 100000 C1 X1 (by omega) (by omega) (by omega) S1 P1 (KX.rb RR1)
  rw [show ((0 : Nat) : Int) = 0 from rfl] at s1
  have hcomp : g_X6_compile M = some (fl, Mc1) := by
    unfold g_X6_compile g_X9_rewind
    simp only [bindS]
    rw [eC1]
    exact s1
  have hread : g_X12_readsBundle X = some (fl, Mr1) := by
    unfold g_X12_readsBundle g_X12_readsBundle_15
    rw [eX1]
    exact s2
  have FC := CC.trans s3
  have FR := RR1.trans s4
  generalize eMc2 : uI Mc1 2 0 0 = Mc2
  generalize eMr2 : uI Mr1 20 8 0 = Mr2
  have fc2 : ∀ x, x ≠ 2 → sameH Mc1 Mc2 x := fun x hx => by rw [← eMc2]; exact sameH_uI hx
  have FC2 : ∀ x, x ≠ 2 → x ≠ 6 → x ≠ 8 → ¬ (38 ≤ x ∧ x < 78) → sameH M Mc2 x := fun x h1 h2 h3 h4 => (FC.1 x h1 h2 h3 h4).trans (fc2 x h1)
  have fr2 : ∀ x, x ≠ 20 → sameH Mr1 Mr2 x := fun x hx => by rw [← eMr2]; exact sameH_uI hx
  have fr20 : ∀ k, k ≠ 8 → zI Mr2 20 k = zI Mr1 20 k := fun k hk' => by rw [← eMr2, zI_uI, if_neg (fun q => hk' q.2)]
  have frl : ∀ k, zL Mr2 20 k = zL Mr1 20 k := fun k => by rw [← eMr2]; rfl
  have RM2 : Rep true Mc2 78 N T L th pe po := R.same (fun x h1 h2 => FC2 x (by omega) (by omega) (by omega) (by omega))
  have HP2 : HP Mc2 143 := HP.same (fun i _ => (FC2 146 (by omega) (by omega) (by omega) (by omega) i).2.2) hH
  have RX2 : RepR Mr2 N T L th pe po := by
    refine RX.f20 (fun x hx => (FR.1 x (by omega) (by omega) (by omega)).trans (fr2 x (by omega))) (fun k hk' => ?_)
    rw [fr20 k (by omega), FR.2.1 k (by omega) (by omega) (by omega) (by omega) (by omega)]
  have K2 : KON Mr2 := (KX.rb FR).f20 (fun x hx => fr2 x (by omega)) (fun k _ => frl k)
  have c20 : zI Mc2 2 0 = 0 := by rw [← eMc2, zI_at]
  have r208 : zI Mr2 20 8 = 0 := by rw [← eMr2, zI_at]
  have FX2 : ∀ x, x ≠ 20 → ¬ (23 ≤ x ∧ x ≤ 24) → ¬ (28 ≤ x ∧ x ≤ 37) → sameH X Mr2 x := fun x h1 h2 h3 => (FR.1 x h1 (by omega) (by omega)).trans (fr2 x h1)
  have hp1 : ¬ ¬ (0 ≤ (per : Int) ∧ (per : Int) < pe) := fun q => q ⟨by omega, hper⟩
  unfold g_X11_bundle g_X12_bundle
  rw [K_hasPerson b78, R.1.2.1, R_isPerson, RX.1.2.1]
  simp only [bindS, bI_0]
  rw [if_neg hp1, if_neg hp1, hcomp, hread]
  simp only [bindS]
  rw [eMc2, eMr2]
  rcases s5 with ⟨e1, sz, hsz, P2⟩ | ⟨e0, ef⟩
  case inr =>
    subst e0
    rw [if_pos rfl, if_pos rfl]
    have ef2 : zI Mr2 20 10 = zI Mc2 2 1 := by rw [fr20 10 (by omega), ef, ← eMc2, zI_uI, if_neg (by omega)]
    rw [ef2]
    exact ⟨_, Mc2, Mr2, N, L, rfl, rfl, fun x hx => FC2 x (by omega) (by omega) (by omega) (by omega), FX2, RM2, HP2, c20, RX2, K2, r208, W, hM, hk, ht⟩
  subst e1
  rw [if_neg (show ¬ (1 : Int) = 0 by omega), if_neg (show ¬ (1 : Int) = 0 by omega)]
  obtain ⟨Mc3, a1, a2, a3⟩ := K_copyFrom b143 b78 (by omega) RM2 hpe.2.2 HP2
  obtain ⟨Mc4, b1, b2, ⟨b5, b0, b1', b6, b7, b8⟩, b13⟩ := K_start5 Mc3 per
  obtain ⟨Mr3, k1, k2, k3, k4, k5⟩ := R_keepR RX2 K2 (lv := 1) (by omega)
  have k1' : g_X12_keeps 1 Mr2 = some ((), Mr3) := k1
  rw [a1, k1']
  simp only [bindS]
  rw [b1]
  simp only [bindS]
  unfold g_X12_bundle_52 g_X12_doesAll
  generalize eMr4 : uI (uI (uL (uI (uI Mr3 20 43 (per : Int)) 20 44 0) 20 45 0) 20 46 0) 20 50 0 = Mr4
  have fr4 : ∀ x, x ≠ 20 → sameH Mr3 Mr4 x := fun x hx => by rw [← eMr4]; exact ((((sameH_uI hx).trans (sameH_uI hx)).trans (sameH_uL hx)).trans (sameH_uI hx)).trans (sameH_uI hx)
  have fr420 : ∀ k, k ≠ 43 → k ≠ 44 → k ≠ 46 → k ≠ 50 → zI Mr4 20 k = zI Mr3 20 k := fun k h1 h2 h3 h4 => by rw [← eMr4, zI_uI, if_neg (by omega), zI_uI, if_neg (by omega), zI_uL, zI_uI, if_neg (by omega), zI_uI, if_neg (by omega)]
  have fr4l : ∀ k, k ≠ 45 → zL Mr4 20 k = zL Mr3 20 k := fun k h1 => by rw [← eMr4, zL_uI, zL_uI, zL_uL, if_neg (by omega), zL_uI, zL_uI]
  have FC4 : ∀ x, x ≠ 2 → x ≠ 6 → x ≠ 8 → x ≠ 9 → x ≠ 13 → ¬ (38 ≤ x ∧ x < 78) → ¬ (143 ≤ x ∧ x < 143 + 65) → sameH M Mc4 x := fun x h1 h2 h3 h4 h5 h6 h7 => ((FC2 x h1 h2 h3 h6).trans (a3 x h7)).trans (b2 x h4 h5)
  have FM4 : ∀ x, x ≠ 2 → x ≠ 9 → x ≠ 13 → ¬ (143 ≤ x ∧ x < 143 + 65) → sameH Mc1 Mc4 x := fun x h1 h4 h5 h7 => ((fc2 x h1).trans (a3 x h7)).trans (b2 x h4 h5)
  have FRr : ∀ x, x ≠ 20 → x ≠ 24 → sameH Mr1 Mr4 x := fun x h1 h2 => ((fr2 x h1).trans (k4 x h2)).trans (fr4 x h1)
  have Rs4 : Rep true Mc4 143 N T L th pe po := a2.same (fun x h1 h2 => b2 x (by omega) (by omega))
  have hP4 : SP Mc4 Mr4 sz 0 := by
    obtain ⟨⟨h1, h2, h3⟩, ⟨h4, h5, h6⟩, h7, h8, h9⟩ := P2
    have e34 : zI Mr4 34 = zI Mr1 34 := funext fun k => (FRr 34 (by omega) (by omega) k).1
    have e32 : zI Mr4 32 = zI Mr1 32 := funext fun k => (FRr 32 (by omega) (by omega) k).1
    have e28 : zI Mr4 28 = zI Mr1 28 := funext fun k => (FRr 28 (by omega) (by omega) k).1
    refine ⟨⟨by rw [(FM4 6 (by omega) (by omega) (by omega) (by omega) 0).1]; exact h1, by rw [fr420 34 (by omega) (by omega) (by omega) (by omega), (k4 20 (by omega) 34).1, fr20 34 (by omega)]; exact h2, h3⟩, ⟨by rw [(FM4 6 (by omega) (by omega) (by omega) (by omega) 4).1]; exact h4, by rw [fr420 42 (by omega) (by omega) (by omega) (by omega), (k4 20 (by omega) 42).1, fr20 42 (by omega)]; exact h5, h6⟩, fun i hi => ⟨(h7 i hi).1.mv (fun k _ => (FM4 (38 + i) (by omega) (by omega) (by omega) (by omega) k).1) (FRr 28 (by omega) (by omega) i).1 (FRr 29 (by omega) (by omega) i).1 (fun k _ _ => (FRr 30 (by omega) (by omega) k).1) (FRr 31 (by omega) (by omega) i).1, ?_⟩, fun j hj => by omega, ?_⟩
    · rw [(FM4 (38 + i) (by omega) (by omega) (by omega) (by omega) 9).1, e32]; exact (h7 i hi).2
    · rw [e34, e32, e28]; exact h9
  have hCR : CR Mc4 Mr4 N T L th pe po D0 0 per := by
    refine ⟨R.same (fun x h1 h2 => FC4 x (by omega) (by omega) (by omega) (by omega) (by omega) (by omega) (by omega)), k2.f20 (fun x hx => fr4 x (by omega)) (fun k hk' => fr420 k (by omega) (by omega) (by omega) (by omega)), k3.f20 (fun x hx => fr4 x (by omega)) (fun k hk' => fr4l k (by omega)), W, hM, hk, ht, D0_le, ⟨b5, ?_, hper⟩, ⟨?_, by omega, fun q hq => ?_⟩, fun q hq hb => ?_, fun q hq hb => ⟨rfl, rfl⟩⟩
    · rw [← eMr4, zI_uI, if_neg (by omega), zI_uI, if_neg (by omega), zI_uL, zI_uI, if_neg (by omega), zI_at]
    · rw [← eMr4, zI_uI, if_neg (by omega), zI_at]; rfl
    · rw [b13 q hq, if_neg (by rw [Nat.zero_div]; omega)]
    · rw [Nat.zero_div] at hb; omega
  have hRUN : RUN Mc4 Mr4 N T L th pe po D0 0 per sz 0 0 0 (fun _ => 0) := by
    refine ⟨hCR, hP4, ⟨b0, b1', b6, b7⟩, ⟨?_, ?_⟩, by omega, ?_, fun j hj => by omega, fun j hj => by omega, fun j hj => by omega, fun j j' h1 h2 => by omega, fun q hq hb => by rw [Nat.zero_div] at hb; omega⟩
    · rw [← eMr4, zI_uI, if_neg (by omega), zI_uI, if_neg (by omega), zI_uL, zI_at]; rfl
    · rw [← eMr4, zI_at]; rfl
    · rw [b8, ← eMr4, zL_uI, zL_uI, zL_at]; omega
  obtain ⟨Mc5, r1, Mr5, r2, r3, r4⟩ := sim_run 600 100000 100000 0 Mc4 Mr4 N L D0 0 0 0 0 (fun _ => 0) 0 hRUN ⟨by omega, fun j hj => by omega⟩ (by omega) (by omega) (by omega) (by omega)
  rw [show ((0 : Nat) : Int) = 0 from rfl] at r1 r4
  rw [r1]
  unfold g_X11_bundle_95
  have Rs5 : Rep true Mc5 143 N T L th pe po := Rs4.same (fun x h1 h2 => r2 x (by omega) (by omega) (by omega))
  have FF5 : ∀ x, (20 ≤ x ∧ x < 38) ∨ x = 3 → sameH M Mc5 x := fun x hx => (FC4 x (by omega) (by omega) (by omega) (by omega) (by omega) (by omega) (by omega)).trans (r2 x (by omega) (by omega) (by omega))
  have c205 : zI Mc5 2 0 = 0 := by rw [(r2 2 (by omega) (by omega) (by omega) 0).1, (b2 2 (by omega) (by omega) 0).1, (a3 2 (by omega) 0).1]; exact c20
  have r2085 : zI Mr5 20 8 = 0 := by rw [r3.2.1 8 (by omega) (by omega) (by omega) (by omega) (by omega), fr420 8 (by omega) (by omega) (by omega) (by omega), (k4 20 (by omega) 8).1]; exact r208
  have FX5 : ∀ x, x ≠ 20 → ¬ (23 ≤ x ∧ x ≤ 24) → ¬ (28 ≤ x ∧ x ≤ 37) → sameH X Mr5 x := fun x h1 h2 h3 => (((FX2 x h1 h2 h3).trans (k4 x (by omega))).trans (fr4 x h1)).trans (r3.1 x h1 (by omega) (by omega) (by omega))
  rcases r4 with ⟨q1, q2, q3, N', L', q4⟩ | ⟨q1, q2, q3, q4, q5⟩
  · rw [q1, if_pos q2]
    simp only [bindS]
    rw [if_neg (show ¬ (1 : Int) = 0 by omega), q3]
    obtain ⟨R', RR', K', W', hM', hk', ht', _⟩ := q4
    exact ⟨_, Mc5, Mr5, N', L', rfl, rfl, FF5, FX5, R', Rs5.2.2.2.2.2.1, c205, RR', K', r2085, W', hM', hk', ht'⟩
  · rw [q1, if_neg (show ¬ zI Mc5 9 1 = 0 by omega)]
    simp only [bindS]
    rw [if_pos trivial]
    obtain ⟨Mc6, u1, u2, u3⟩ := K_copyFrom b78 b143 (by omega) Rs5 hpe.2.2 q4
    obtain ⟨Mr6, l1, l2, l3⟩ := R_laysBack (lv := 1) (by omega) Mr5
    have l1' : g_X12_laysBack 1 Mr5 = some ((), Mr6) := l1
    rw [u1, l1']
    simp only [bindS]
    have e91 : zI Mc6 9 1 = zI Mc5 9 1 := (u3 9 (by omega) 1).1
    have e10 : zI Mr6 20 10 = zI Mc5 9 1 := by rw [(l2 20 (by omega) 10).1]; exact q2
    rw [e91, e10]
    refine ⟨_, Mc6, Mr6, N, L, rfl, rfl, fun x hx => (FF5 x hx).trans (u3 x (by omega)), fun x h1 h2 h3 => (FX5 x h1 h2 h3).trans (l2 x (by omega)), u2, HP.same (fun i _ => (u3 146 (by omega) i).2.2) Rs5.2.2.2.2.2.1, by rw [(u3 2 (by omega) 0).1]; exact c205, ?_, q5.mv (fun x hx => l2 x (by omega)), by rw [(l2 20 (by omega) 8).1]; exact r2085, W, hM, hk, ht⟩
    exact RX2.back k4 k5 (fun k hk' => by rw [r3.2.1 k (by omega) (by omega) (by omega) (by omega) (by omega), fr420 k (by omega) (by omega) (by omega) (by omega)]) ((fr4 22 (by omega)).trans (r3.1 22 (by omega) (by omega) (by omega) (by omega))) (fun k h1 _ => by rw [r3.2.2.2 k (by omega), (fr4 24 (by omega) k).2.1]) l2 l3
end BB
theorem q_bundle {M : MZ} (h : IV M) (p : Int) : ∃ r M1 M2, g_X11_bundle p M = some (r, M1) ∧ g_X12_bundle p M1 = some (r, M2) ∧ IV M2 := by
  have h0 := h
  obtain ⟨N, T, L, th, pe, po, R, RR, W, hM, hk, ht, hH, K, hA⟩ := h
  by_cases hp : 0 ≤ p ∧ p < pe
  case neg =>
    refine ⟨-1, M, M, ?_, ?_, h0⟩
    · unfold g_X11_bundle
      rw [K_hasPerson b78, R.1.2.1]
      simp only [bindS, bI_0]
      rw [if_pos hp]
    · unfold g_X12_bundle
      rw [R_isPerson, RR.1.2.1]
      simp only [bindS, bI_0]
      rw [if_pos hp]
  obtain ⟨per, rfl⟩ := zR_nat hp.1
  obtain ⟨n, en⟩ := zR_nat hA.1.1
  have n4 : n ≤ 400 := by have := hA.1.2; omega
  obtain ⟨B, eB⟩ : ∃ B : Nat → Int, B = fun k => if k < n then and32 (zI M 3 k) 255 else -1 := ⟨_, rfl⟩
  have b : BO n B := ⟨n4, fun k hk' => by rw [eB]; exact if_neg (by omega)⟩
  have Bk : ∀ k, k < n → and32 (zI M 3 k) 255 = B k := fun k hk' => by rw [eB]; exact (if_pos hk').symm
  have TCM : TC n B M := ⟨en, Bk⟩
  have TRM : ∀ X : MZ, zI X 20 8 = zI M 20 8 → sameH M X 25 → TR n B X := fun X h8 h25 => ⟨by rw [h8, hA.2.1]; exact en, fun k hk' => by rw [(h25 k).1, (hA.2.2 k (by omega)).1]; exact Bk k hk'⟩
  obtain ⟨r, MF, My0, N0, L0, a1, _, a3, _⟩ := bun_both b TCM R W hM hk ht hH hp.2 (TRM M rfl sameH.rfl) RR K
  have RF : RepR MF N T L th pe po := RR.same (fun x h1 h2 => a3 x (by omega))
  have KF : KON MF := K.mv (fun x hx => a3 x (by omega))
  obtain ⟨r', MF', My, N', L', b1, b2, b3, b4, b5, b6, b7, b8, b9, b10, b11, b12, b13, b14⟩ := bun_both b TCM R W hM hk ht hH hp.2 (TRM MF (a3 20 (by omega) 8).1 (a3 25 (by omega))) RF KF
  rw [a1] at b1
  injection b1 with b1
  injection b1 with er eM
  subst er
  subst eM
  refine ⟨r, MF, My, a1, b2, N', T, L', th, pe, po, b5.same (fun x h1 h2 => b4 x (by omega) (by omega) (by omega)), b8, b11, b12, b13, b14, HP.same (fun i _ => (b4 146 (by omega) (by omega) (by omega) i).2.2) b6, b9, ?_⟩
  have e2 := b4 2 (by omega) (by omega) (by omega)
  have e3 := (a3 3 (by omega)).trans (b4 3 (by omega) (by omega) (by omega))
  have e25 := (a3 25 (by omega)).trans (b4 25 (by omega) (by omega) (by omega))
  exact ⟨by rw [(e2 0).1, b7]; omega, by rw [b10, (e2 0).1, b7], fun j hj => by rw [(e25 j).1, (e3 j).1]; exact hA.2.2 j hj⟩
theorem ok_bundle (a : Int32) : SO INV (f_X11_bundle a) (f_X12_bundle a) := SO_of (IV := IV) (fun _ => l_X11_bundle rfl rfl) (fun _ => l_X12_bundle rfl rfl) (fun _ h => q_bundle h _)
