/-! the whole text of a bundle, side by side -/
def SP (Mc Mr : MZ) (sz dp : Nat) : Prop := (zI Mc 6 0 = sz ∧ zI Mr 20 34 = sz ∧ sz ≤ 40) ∧ (zI Mc 6 4 = dp ∧ zI Mr 20 42 = dp ∧ dp ≤ 4) ∧ (∀ i, i < sz → STQ Mc Mr i ∧ zI Mc (38 + i) 9 = zI Mr 32 i) ∧ (∀ j, j < dp → zI Mc 8 j = zI Mr 34 j) ∧ NS (zI Mr 34) (zI Mr 32) (zI Mr 28) sz dp
def CB (M M' : MZ) : Prop := (∀ x, x ≠ 2 → x ≠ 6 → x ≠ 8 → ¬ (38 ≤ x ∧ x < 78) → sameH M M' x) ∧ zI M' 2 0 = zI M 2 0
def RB (M M' : MZ) : Prop := (∀ x, x ≠ 20 → ¬ (28 ≤ x ∧ x ≤ 32) → x ≠ 34 → sameH M M' x) ∧ (∀ k, k ≠ 9 → k ≠ 10 → k ≠ 11 → k ≠ 34 → k ≠ 42 → zI M' 20 k = zI M 20 k) ∧ (∀ k, zL M' 20 k = zL M 20 k)
theorem CB.trans {M M' M'' : MZ} (a : CB M M') (b : CB M' M'') : CB M M'' := ⟨fun x h1 h2 h3 h4 => (a.1 x h1 h2 h3 h4).trans (b.1 x h1 h2 h3 h4), b.2.trans a.2⟩
theorem RB.trans {M M' M'' : MZ} (a : RB M M') (b : RB M' M'') : RB M M'' := ⟨fun x h1 h2 h3 => (a.1 x h1 h2 h3).trans (b.1 x h1 h2 h3), fun k h1 h2 h3 h4 h5 => (b.2.1 k h1 h2 h3 h4 h5).trans (a.2.1 k h1 h2 h3 h4 h5), fun k => (b.2.2 k).trans (a.2.2 k)⟩
theorem CB.rfl {M : MZ} : CB M M := ⟨fun _ _ _ _ _ => sameH.rfl, Eq.refl _⟩
theorem RB.rfl {M : MZ} : RB M M := ⟨fun _ _ _ _ => sameH.rfl, fun _ _ _ _ _ _ => Eq.refl _, fun _ => Eq.refl _⟩
theorem CF.cb {M M' : MZ} (a : CF M M') : CB M M' := ⟨fun x h1 _ _ _ => a.1 x h1, a.2⟩
theorem RF.rb {M M' : MZ} (a : RF M M') : RB M M' := ⟨fun x h1 _ _ => a.1 x h1, fun k h1 h2 h3 _ _ => a.2.1 k h1 h2 h3, a.2.2⟩
theorem CZ.cb {sz : Nat} (h : sz < 40) {M M' : MZ} (a : CZ sz M M') : CB M M' := ⟨fun x h1 h2 _ h4 => a.1 x h1 h2 (by omega), a.2.1⟩
theorem RZ.rb {sz : Nat} {M M' : MZ} (a : RZ sz M M') : RB M M' := ⟨fun x h1 h2 _ => a.1 x h1 h2, fun k h1 h2 h3 h4 _ => a.2.1 k h1 h2 h3 h4, a.2.2.1⟩
theorem COp.cb {M M' : MZ} (a : COp M M') : CB M M' := ⟨fun x h1 h2 h3 _ => a.1 x h1 h2 h3, a.2.1⟩
theorem ROp.rb {M M' : MZ} (a : ROp M M') : RB M M' := ⟨fun x h1 _ h3 => a.1 x h1 h3, fun k h1 h2 h3 _ h5 => a.2.1 k h1 h2 h3 h5, a.2.2⟩
theorem KON.rb {M M' : MZ} (K : KON M) (f : RB M M') : KON M' := ⟨fun j hj => by rw [(f.1 21 (by omega) (by omega) (by omega) j).2.1]; exact K.1 j hj, fun j h1 h2 => by rw [f.2.2]; exact K.2.1 j h1 h2, fun j hj => by rw [(f.1 33 (by omega) (by omega) (by omega) j).2.1]; exact K.2.2 j hj⟩
theorem SP.mv {Mc Mr Mc' Mr' : MZ} {sz dp : Nat} (h : SP Mc Mr sz dp) (a : CF Mc Mc') (c : RF Mr Mr') : SP Mc' Mr' sz dp := by
  obtain ⟨⟨h1, h2, h3⟩, ⟨h4, h5, h6⟩, h7, h8, h9⟩ := h
  have e34 : zI Mr' 34 = zI Mr 34 := funext fun k => (c.1 34 (by omega) k).1
  have e32 : zI Mr' 32 = zI Mr 32 := funext fun k => (c.1 32 (by omega) k).1
  have e28 : zI Mr' 28 = zI Mr 28 := funext fun k => (c.1 28 (by omega) k).1
  refine ⟨⟨by rw [(a.1 6 (by omega) 0).1]; exact h1, by rw [c.2.1 34 (by omega) (by omega) (by omega)]; exact h2, h3⟩, ⟨by rw [(a.1 6 (by omega) 4).1]; exact h4, by rw [c.2.1 42 (by omega) (by omega) (by omega)]; exact h5, h6⟩, fun i hi => ⟨(h7 i hi).1.mv (fun k _ => (a.1 (38 + i) (by omega) k).1) (c.1 28 (by omega) i).1 (c.1 29 (by omega) i).1 (fun k _ _ => (c.1 30 (by omega) k).1) (c.1 31 (by omega) i).1, ?_⟩, fun j hj => ?_, ?_⟩
  · rw [(a.1 (38 + i) (by omega) 9).1, e32]; exact (h7 i hi).2
  · rw [(a.1 8 (by omega) j).1, e34]; exact h8 j hj
  · rw [e34, e32, e28]; exact h9
section RDB
variable {n : Nat} {B : Nat → Int}
theorem SR.at {j : Nat} {Mc Mr : MZ} (s : SR n B j Mc Mr) {j' : Nat} (hj : j' ≤ n) : SR n B j' (uI Mc 2 5 (j' : Int)) (uI Mr 20 9 (j' : Int)) := by
  obtain ⟨y1, y2, y3, y4, y5⟩ := s
  exact ⟨⟨by rw [zI_uI, if_neg (by omega)]; exact y1.1, fun k hk => by rw [zI_uI, if_neg (by omega)]; exact y1.2 k hk⟩, ⟨by rw [zI_uI, if_neg (by omega)]; exact y2.1, fun k hk => by rw [zI_uI, if_neg (by omega)]; exact y2.2 k hk⟩, zI_at _ _ _ _, zI_at _ _ _ _, hj⟩
theorem bo_lt (b : BO n B) {s : Nat} (h : B s ≠ -1) : s < n := by
  by_cases q : s < n
  · exact q
  · exact absurd (b.2 s (by omega)) h
/-- behind the brackets that close -/
theorem sim_end (b : BO n B) {j1 dp : Nat} {Mc Mr Mc1 Mr1 : MZ} (hpc : g_X9_peek Mc = some (B j1, Mc1)) (hS : SR n B j1 Mc1 Mr1) (hpr : g_X12_next Mr = some (B j1, Mr1)) (hB : B j1 ≠ 32) (c4 : zI Mc 6 4 = dp) (r42 : zI Mr1 20 42 = dp) (k19 : Int → MZ → Option (Int × MZ)) (v1 : Int) :
    (B j1 = 59 → (if (zI Mc 6 4) = 0 then ((g_X9_peek Mc).bind fun q80 => (if q80.1 = (-1) then (some ((1 : Int), q80.2)) else (g_X6_compile_89 k19 v1 q80.2))) else (g_X6_compile_89 k19 v1 Mc)) = k19 (w32 (v1 + 1)) (uI Mc1 2 5 ((j1 + 1 : Nat) : Int)) ∧ g_X12_goesOn_57 Mr = some (1, uI Mr1 20 9 ((j1 + 1 : Nat) : Int)) ∧ SR n B (j1 + 1) (uI Mc1 2 5 ((j1 + 1 : Nat) : Int)) (uI Mr1 20 9 ((j1 + 1 : Nat) : Int))) ∧
    (B j1 = -1 → dp = 0 → (if (zI Mc 6 4) = 0 then ((g_X9_peek Mc).bind fun q80 => (if q80.1 = (-1) then (some ((1 : Int), q80.2)) else (g_X6_compile_89 k19 v1 q80.2))) else (g_X6_compile_89 k19 v1 Mc)) = some (1, Mc1) ∧ g_X12_goesOn_57 Mr = some (0, Mr1)) ∧
    (B j1 ≠ 59 → ¬ (B j1 = -1 ∧ dp = 0) → (if (zI Mc 6 4) = 0 then ((g_X9_peek Mc).bind fun q80 => (if q80.1 = (-1) then (some ((1 : Int), q80.2)) else (g_X6_compile_89 k19 v1 q80.2))) else (g_X6_compile_89 k19 v1 Mc)) = some (0, uI Mc1 2 1 (fz 0 j1)) ∧ g_X12_goesOn_57 Mr = some (-1, Mr1)) := by
  have hn := b.1
  obtain ⟨t1, t2, t3, t4, t5⟩ := hS
  have hpc1 := K_peek_stay b t1 t3 t5 hB
  have hpr1 := R_next_stay b t2 t4 hB
  -- the sign taken, or not
  have acc : ∀ X, g_X9_peek X = some (B j1, Mc1) → (B j1 = 59 → g_X6_compile_89 k19 v1 X = k19 (w32 (v1 + 1)) (uI Mc1 2 5 ((j1 + 1 : Nat) : Int))) ∧ (B j1 ≠ 59 → g_X6_compile_89 k19 v1 X = some (0, uI Mc1 2 1 (fz 0 j1))) := by
    intro X hX
    unfold g_X6_compile_89 g_X6_compile_110 g_X9_accept
    rw [hX]
    simp only [bindS]
    refine ⟨fun h => ?_, fun h => ?_⟩
    · have := bo_lt b (s := j1) (by omega)
      rw [if_pos h, t3, w32_id (x := (j1 : Int) + 1) (by omega) (by omega), show (j1 : Int) + 1 = ((j1 + 1 : Nat) : Int) by omega]
      simp only [bindS]
      rw [if_neg (by omega)]
    · rw [if_neg h]
      simp only [bindS]
      rw [if_pos trivial]
      exact K_blameH b t1 t3 t5 hB 0
  have a0 := acc Mc hpc
  have a1 := acc Mc1 hpc1
  unfold g_X12_goesOn_57 g_X12_goesOn_97 g_X12_goesOn_98
  rw [hpc, hpr, c4]
  simp only [bindS]
  rw [hpr1]
  simp only [bindS]
  rw [r42, t4]
  refine ⟨fun h => ?_, fun h hd => ?_, fun h hd => ?_⟩
  · have hl := bo_lt b (s := j1) (by omega)
    rw [if_pos h, w32_id (x := (j1 : Int) + 1) (by omega) (by omega), show (j1 : Int) + 1 = ((j1 + 1 : Nat) : Int) by omega, if_neg (show ¬ B j1 = -1 by omega), a0.1 h, a1.1 h]
    refine ⟨ite_self _, rfl, ?_⟩
    exact SR.at (j := j1) ⟨t1, t2, t3, t4, t5⟩ (by omega)
  · rw [if_neg (show ¬ B j1 = 59 by omega), if_pos h, if_pos h, if_pos (by omega), if_pos (by omega)]
    exact ⟨rfl, rfl⟩
  · rw [if_neg h, a0.2 h, a1.2 h]
    refine ⟨?_, ?_⟩
    · by_cases c1 : (dp : Int) = 0
      · rw [if_pos c1, if_neg (fun q => hd ⟨q, by omega⟩)]
      · rw [if_neg c1]
    · by_cases c1 : B j1 = -1
      · rw [if_pos c1, if_neg (fun q => hd ⟨c1, by omega⟩)]
      · rw [if_neg c1]
theorem K_stepAt {i sz : Nat} (hi : i < sz) (hs : sz ≤ 40) {M : MZ} (h : zI M 6 0 = sz) : g_X6_stepAt i M = some (38 + i, M) := by
  unfold g_X6_stepAt g_X6_stepAt_31
  rw [if_neg (by omega), h, if_neg (by omega), if_neg (by omega), if_pos (by omega), Int.toNat_natCast]
theorem sim_close (b : BO n B) {sz : Nat} : ∀ (dp f1 f2 j : Nat) (Mc Mr : MZ), dp < f1 → dp < f2 → SR n B j Mc Mr → SP Mc Mr sz dp → (∀ j, j < dp → zI Mr 34 j + 1 < (sz : Int)) → ∃ (dp' j1 : Nat) (Mc' Mr' Mc1 Mr1 : MZ), g_X6_closeBrackets_0 f1 Mc = some ((), Mc') ∧ g_X12_goesOn_0 f2 Mr = g_X12_goesOn_57 Mr' ∧ g_X9_peek Mc' = some (B j1, Mc1) ∧ g_X12_next Mr' = some (B j1, Mr1) ∧ SR n B j1 Mc1 Mr1 ∧ B j1 ≠ 32 ∧ SP Mc1 Mr1 sz dp' ∧ CB Mc Mc1 ∧ RB Mr Mr1 ∧ zI Mc' 6 4 = dp' := by
  have hn := b.1
  intro dp
  induction dp with
  | zero =>
    intro f1 f2 j Mc Mr hf1 hf2 hS hP hNB
    obtain ⟨f1, rfl⟩ : ∃ g, f1 = g + 1 := ⟨f1 - 1, by omega⟩
    obtain ⟨f2, rfl⟩ : ∃ g, f2 = g + 1 := ⟨f2 - 1, by omega⟩
    have e1 : g_X6_closeBrackets_0 (f1 + 1) Mc = g_X6_closeBrackets_0B (g_X6_closeBrackets_0 f1) Mc := rfl
    have e2 : g_X12_goesOn_0 (f2 + 1) Mr = g_X12_goesOn_0B (g_X12_goesOn_0 f2) Mr := rfl
    obtain ⟨j1, Mc1, Mr1, a1, a2, a3, a4, a5, a6, a7, a8, a9⟩ := sim_peek b hS
    have P1 := hP.mv a4 a5
    refine ⟨0, j1, Mc, Mr1, Mc1, Mr1, ?_, ?_, a1, R_next_stay b a3.2.1 a3.2.2.2.1 a9, a3, a9, P1, a4.cb, a5.rb, hP.2.1.1⟩
    · rw [e1]
      unfold g_X6_closeBrackets_0B g_X6_closeBrackets_70
      rw [hP.2.1.1, if_pos (by omega)]
    · rw [e2]
      unfold g_X12_goesOn_0B
      rw [a2]
      simp only [bindS]
      rw [P1.2.1.2.1]
      by_cases c : B j1 = 93
      · rw [if_pos c, if_pos (by omega)]
      · rw [if_neg c]
  | succ dp ih =>
    intro f1 f2 j Mc Mr hf1 hf2 hS hP hNB
    obtain ⟨f1, rfl⟩ : ∃ g, f1 = g + 1 := ⟨f1 - 1, by omega⟩
    obtain ⟨f2, rfl⟩ : ∃ g, f2 = g + 1 := ⟨f2 - 1, by omega⟩
    have e1 : g_X6_closeBrackets_0 (f1 + 1) Mc = g_X6_closeBrackets_0B (g_X6_closeBrackets_0 f1) Mc := rfl
    have e2 : g_X12_goesOn_0 (f2 + 1) Mr = g_X12_goesOn_0B (g_X12_goesOn_0 f2) Mr := rfl
    obtain ⟨j1, Mc1, Mr1, a1, a2, a3, a4, a5, a6, a7, a8, a9⟩ := sim_peek b hS
    have P1 := hP.mv a4 a5
    have P1' := P1
    obtain ⟨⟨p1, p2, p3⟩, ⟨p4, p5, p6⟩, p7, p8, p9⟩ := P1'
    rw [e1, e2]
    unfold g_X6_closeBrackets_0B g_X6_closeBrackets_70 g_X6_closeBrackets_67 g_X12_goesOn_0B g_X9_accept
    rw [hP.2.1.1, if_neg (by omega), if_neg (by omega), a1, a2]
    simp only [bindS]
    by_cases c : B j1 = 93
    case neg =>
      rw [if_neg c, if_neg c]
      simp only [bindS]
      rw [if_pos trivial]
      exact ⟨dp + 1, j1, Mc1, Mr1, Mc1, Mr1, rfl, rfl, K_peek_stay b a3.1 a3.2.2.1 a3.2.2.2.2 a9, R_next_stay b a3.2.1 a3.2.2.2.1 a9, a3, a9, P1, a4.cb, a5.rb, p4⟩
    case pos =>
      have hl := bo_lt b (s := j1) (by omega)
      obtain ⟨o, eo⟩ : ∃ o : Nat, zI Mr1 34 dp = o := ⟨(zI Mr1 34 dp).toNat, by have := p9.1 dp (by omega); omega⟩
      have ho := p9.1 dp (by omega)
      rw [eo] at ho
      have hosz : o < sz := by omega
      rw [if_pos c, if_pos c, a3.2.2.1, a3.2.2.2.1, p5, if_neg (show ¬ ((dp + 1 : Nat) : Int) ≤ 0 by omega), w32_id (x := (j1 : Int) + 1) (by omega) (by omega), show (j1 : Int) + 1 = ((j1 + 1 : Nat) : Int) by omega]
      simp only [bindS]
      rw [if_neg (show ¬ (1 : Int) = 0 by omega)]
      have S2 : SR n B (j1 + 1) (uI Mc1 2 5 ((j1 + 1 : Nat) : Int)) (uI Mr1 20 9 ((j1 + 1 : Nat) : Int)) := a3.at (by omega)
      have x4 : zI (uI Mc1 2 5 ((j1 + 1 : Nat) : Int)) 6 4 = ((dp + 1 : Nat) : Int) := by rw [zI_uI, if_neg (by omega)]; exact p4
      have y4 : zI (uI Mr1 20 9 ((j1 + 1 : Nat) : Int)) 20 42 = ((dp + 1 : Nat) : Int) := by rw [zI_uI, if_neg (by omega)]; exact p5
      rw [x4, y4, w32_id (x := ((dp + 1 : Nat) : Int) - 1) (by omega) (by omega), show ((dp + 1 : Nat) : Int) - 1 = (dp : Int) by omega]
      generalize eMc2 : uI (uI Mc1 2 5 ((j1 + 1 : Nat) : Int)) 6 4 (dp : Int) = Mc2
      generalize eMr2 : uI (uI Mr1 20 9 ((j1 + 1 : Nat) : Int)) 20 42 (dp : Int) = Mr2
      have m4 : zI Mc2 6 4 = (dp : Int) := by rw [← eMc2, zI_at]
      have m0 : zI Mc2 6 0 = (sz : Int) := by rw [← eMc2, zI_uI, if_neg (by omega), zI_uI, if_neg (by omega)]; exact p1
      have m8 : ∀ k, zI Mc2 8 k = zI Mc1 8 k := fun k => by rw [← eMc2, zI_uI, if_neg (by omega), zI_uI, if_neg (by omega)]
      have q42 : zI Mr2 20 42 = (dp : Int) := by rw [← eMr2, zI_at]
      have q34 : zI Mr2 20 34 = (sz : Int) := by rw [← eMr2, zI_uI, if_neg (by omega), zI_uI, if_neg (by omega)]; exact p2
      have q8 : ∀ k, zI Mr2 34 k = zI Mr1 34 k := fun k => by rw [← eMr2, zI_uI, if_neg (by omega), zI_uI, if_neg (by omega)]
      rw [m4, q42, if_pos (show (0 : Int) ≤ (dp : Int) ∧ (dp : Int) < ((4 : Nat) : Int) by omega), if_pos (show (0 : Int) ≤ (dp : Int) ∧ (dp : Int) < ((4 : Nat) : Int) by omega), Int.toNat_natCast, m8, p8 dp (by omega), q8, eo, K_stepAt hosz p3 m0]
      simp only [bindS]
      rw [if_neg (show ¬ 38 + o = 0 by omega), if_pos (kdt o (by omega)), m0, q34, if_pos (show (0 : Int) ≤ (o : Int) ∧ (o : Int) < ((40 : Nat) : Int) by omega), Int.toNat_natCast]
      have fc : ∀ x k, x ≠ 2 → x ≠ 6 → (x ≠ 38 + o ∨ k ≠ 9) → zI (uI Mc2 (38 + o) 9 (sz : Int)) x k = zI Mc1 x k := fun x k h1 h2 h3 => by rw [zI_uI, if_neg (by omega), ← eMc2, zI_uI, if_neg (by omega), zI_uI, if_neg (by omega)]
      have fr : ∀ x k, x ≠ 20 → (x ≠ 32 ∨ k ≠ o) → zI (uI Mr2 32 o (sz : Int)) x k = zI Mr1 x k := fun x k h1 h2 => by rw [zI_uI, if_neg (by omega), ← eMr2, zI_uI, if_neg (by omega), zI_uI, if_neg (by omega)]
      have FC : CB Mc1 (uI Mc2 (38 + o) 9 (sz : Int)) := by
        rw [← eMc2]
        exact ⟨fun x h1 h2 h3 h4 => ((sameH_uI h1).trans (sameH_uI h2)).trans (sameH_uI (by omega)), by rw [zI_uI, if_neg (by omega), zI_uI, if_neg (by omega), zI_uI, if_neg (by omega)]⟩
      have FR : RB Mr1 (uI Mr2 32 o (sz : Int)) := by
        rw [← eMr2]
        exact ⟨fun x h1 h2 h3 => ((sameH_uI h1).trans (sameH_uI h1)).trans (sameH_uI (by omega)), fun k h1 h2 h3 h4 h5 => by rw [zI_uI, if_neg (by omega), zI_uI, if_neg (by omega), zI_uI, if_neg (by omega)], fun _ => rfl⟩
      have S4 : SR n B (j1 + 1) (uI Mc2 (38 + o) 9 (sz : Int)) (uI Mr2 32 o (sz : Int)) := by
        obtain ⟨y1, y2, y3, y4, y5⟩ := S2
        rw [← eMc2, ← eMr2]
        refine ⟨⟨?_, fun k hk => ?_⟩, ⟨?_, fun k hk => ?_⟩, ?_, ?_, y5⟩
        · rw [zI_uI, if_neg (by omega), zI_uI, if_neg (by omega)]; exact y1.1
        · rw [zI_uI, if_neg (by omega), zI_uI, if_neg (by omega)]; exact y1.2 k hk
        · rw [zI_uI, if_neg (by omega), zI_uI, if_neg (by omega)]; exact y2.1
        · rw [zI_uI, if_neg (by omega), zI_uI, if_neg (by omega)]; exact y2.2 k hk
        · rw [zI_uI, if_neg (by omega), zI_uI, if_neg (by omega)]; exact y3
        · rw [zI_uI, if_neg (by omega), zI_uI, if_neg (by omega)]; exact y4
      have NB1 : ∀ j, j < dp + 1 → zI Mr1 34 j + 1 < (sz : Int) := fun j hj => by rw [(a5.1 34 (by omega) j).1]; exact hNB j hj
      have P4 : SP (uI Mc2 (38 + o) 9 (sz : Int)) (uI Mr2 32 o (sz : Int)) sz dp := by
        refine ⟨⟨by rw [zI_uI, if_neg (by omega)]; exact m0, by rw [zI_uI, if_neg (by omega)]; exact q34, p3⟩, ⟨by rw [zI_uI, if_neg (by omega)]; exact m4, by rw [zI_uI, if_neg (by omega)]; exact q42, by omega⟩, fun i hi => ⟨(p7 i hi).1.mv (fun k hk => fc _ k (by omega) (by omega) (by omega)) (fr 28 i (by omega) (by omega)) (fr 29 i (by omega) (by omega)) (fun k _ _ => fr 30 k (by omega) (by omega)) (fr 31 i (by omega) (by omega)), ?_⟩, fun j hj => ?_, ?_⟩
        · by_cases ei : i = o
          · rw [ei, zI_at, zI_at]
          · rw [fc _ 9 (by omega) (by omega) (by omega), fr 32 i (by omega) (by omega)]
            exact (p7 i hi).2
        · rw [fc 8 j (by omega) (by omega) (by omega), fr 34 j (by omega) (by omega)]
          exact p8 j (by omega)
        · exact NS_close p9 NB1 eo (fun j hj => fr 34 j (by omega) (by omega)) (fun i hi => fr 32 i (by omega) (by omega)) (zI_at _ _ _ _) (fun i => fr 28 i (by omega) (by omega))
      obtain ⟨dp', j2, Mc', Mr', Mc5, Mr5, b1, b2, b3, b4, b5, b6, b7, b8, b9, b10⟩ := ih f1 f2 (j1 + 1) _ _ (by omega) (by omega) S4 P4 (fun j hj => by rw [fr 34 j (by omega) (by omega)]; exact NB1 j (by omega))
      exact ⟨dp', j2, Mc', Mr', Mc5, Mr5, b1, b2, b3, b4, b5, b6, b7, (a4.cb.trans FC).trans b8, (a5.rb.trans FR).trans b9, b10⟩
end RDB
