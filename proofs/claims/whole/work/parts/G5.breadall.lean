/-! the whole text of a bundle, read -/
section RDA
variable {n : Nat} {B : Nat → Int}
theorem SP_old {Mc Mr Mc' Mr' : MZ} {sz dp : Nat} (h : SP Mc Mr sz dp) (a : CZ sz Mc Mc') (c : RZ sz Mr Mr') : ∀ i, i < sz → STQ Mc' Mr' i ∧ zI Mc' (38 + i) 9 = zI Mr' 32 i := by
  intro i hi
  have h40 := h.1.2.2
  obtain ⟨q1, q2⟩ := h.2.2.1 i hi
  have r := c.2.2.2.1 i (by omega)
  refine ⟨q1.mv (fun k _ => (a.1 (38 + i) (by omega) (by omega) (by omega) k).1) r.1 r.2.1 (fun k h1 h2 => c.2.2.2.2 k (by omega)) r.2.2.1, ?_⟩
  rw [(a.1 (38 + i) (by omega) (by omega) (by omega) 9).1, r.2.2.2]
  exact q2
theorem K_hasB {i : Nat} (hi : i < 40) {M : MZ} {k : Int} (h : zI M (38 + i) 0 = k) : g_X8_hasBrackets (38 + i) M = some (if 5 ≤ k ∧ k ≤ 6 then 1 else 0, M) := by
  unfold g_X8_hasBrackets g_X8_hasBrackets_17 g_X8_hasBrackets_22
  rw [if_pos (kdt i hi), h, if_pos (Or.inr rfl), if_pos (Or.inl rfl)]
  by_cases c5 : k = 5
  · rw [if_pos c5, if_pos (by omega)]
  · rw [if_neg c5]
    by_cases c6 : k = 6
    · rw [if_pos c6, if_pos (by omega)]
    · rw [if_neg c6, if_neg (by omega)]
theorem sim_read (b : BO n B) : ∀ (d sz dp j f1 f2 : Nat) (Mc Mr : MZ), sz + d = 40 → d < f1 → d + 1 < f2 → SR n B j Mc Mr → SP Mc Mr sz dp → KON Mr → ∃ (fl : Int) (Mc' Mr' : MZ), g_X6_compile_19 f1 sz Mc = some (fl, Mc') ∧ g_X12_readsBundle_17 f2 1 Mr = some (fl, Mr') ∧ CB Mc Mc' ∧ RB Mr Mr' ∧ ((fl = 1 ∧ ∃ sz', 1 ≤ sz' ∧ SP Mc' Mr' sz' 0) ∨ (fl = 0 ∧ zI Mr' 20 10 = zI Mc' 2 1)) := by
  have hn := b.1
  intro d
  induction d with
  | zero =>
    intro sz dp j f1 f2 Mc Mr hd hf1 hf2 hS hP K
    obtain ⟨f1, rfl⟩ : ∃ g, f1 = g + 1 := ⟨f1 - 1, by omega⟩
    obtain ⟨f2, rfl⟩ : ∃ g, f2 = g + 1 := ⟨f2 - 1, by omega⟩
    have e1 : g_X6_compile_19 (f1 + 1) sz Mc = g_X6_compile_19B (g_X6_compile_19 f1) sz Mc := rfl
    have e2 : g_X12_readsBundle_17 (f2 + 1) 1 Mr = g_X12_readsBundle_17B (g_X12_readsBundle_17 f2) 1 Mr := rfl
    obtain ⟨rd, r40⟩ := sim_rstep b hP.1.2.2 K hS hP.1.1 hP.1.2.1
    obtain ⟨Mc', g1, g2⟩ := r40 (by omega)
    rw [e1, e2]
    unfold g_X6_compile_19B g_X12_readsBundle_17B
    rw [if_neg (by omega), if_pos rfl]
    rcases rd with ⟨Mc2, Mr2, x1, x2, x3, x4, x5⟩ | ⟨Mc2, Mr2, _, x1, _⟩
    · rw [x1] at g1
      have em : Mc2 = Mc' := by injection g1 with g1; injection g1
      rw [x1, x2]
      simp only [bindS]
      rw [if_pos trivial, if_pos trivial]
      exact ⟨0, Mc2, Mr2, rfl, rfl, by rw [em]; exact g2.cb, x4.rb, Or.inr ⟨rfl, x5⟩⟩
    · rw [x1] at g1
      injection g1 with g1
      injection g1 with g1
      omega
  | succ d ih =>
    intro sz dp j f1 f2 Mc Mr hd hf1 hf2 hS hP K
    obtain ⟨f1, rfl⟩ : ∃ g, f1 = g + 1 := ⟨f1 - 1, by omega⟩
    obtain ⟨f2, rfl⟩ : ∃ g, f2 = g + 1 := ⟨f2 - 1, by omega⟩
    have e1 : g_X6_compile_19 (f1 + 1) sz Mc = g_X6_compile_19B (g_X6_compile_19 f1) sz Mc := rfl
    have e2 : g_X12_readsBundle_17 (f2 + 1) 1 Mr = g_X12_readsBundle_17B (g_X12_readsBundle_17 f2) 1 Mr := rfl
    obtain ⟨rd, r40⟩ := sim_rstep b hP.1.2.2 K hS hP.1.1 hP.1.2.1
    rw [e1, e2]
    unfold g_X6_compile_19B g_X12_readsBundle_17B
    rw [if_neg (show ¬ (40 : Int) < (sz : Int) by omega), if_pos rfl]
    rcases rd with ⟨Mc1, Mr1, x1, x2, x3, x4, x5⟩ | ⟨Mc1, Mr1, j1, x1, x3, x4, x5, x6, x7, x8, x9, x10⟩
    · rw [x1, x2]
      simp only [bindS]
      rw [if_pos trivial, if_pos trivial]
      exact ⟨0, Mc1, Mr1, rfl, rfl, x3.cb (by omega), x4.rb, Or.inr ⟨rfl, x5⟩⟩
    have old := SP_old hP x3 x4
    have hk := x6.1
    have c41 : zI Mc1 6 4 = dp := by rw [x3.2.2 4 (by omega)]; exact hP.2.1.1
    have r421 : zI Mr1 20 42 = dp := by rw [x4.2.1 42 (by omega) (by omega) (by omega) (by omega)]; exact hP.2.1.2.1
    have hdp := hP.2.1.2.2
    have o34 : ∀ k, zI Mr1 34 k = zI Mr 34 k := fun k => (x4.1 34 (by omega) (by omega) k).1
    have o8 : ∀ k, zI Mc1 8 k = zI Mc 8 k := fun k => (x3.1 8 (by omega) (by omega) (by omega) k).1
    rw [x1]
    simp only [bindS]
    rw [if_neg (show ¬ (1 : Int) = 0 by omega), x7, w32_id (x := ((sz + 1 : Nat) : Int) - 1) (by omega) (by omega), show ((sz + 1 : Nat) : Int) - 1 = (sz : Int) by omega, K_stepAt (i := sz) (sz := sz + 1) (by omega) (by omega) x7]
    simp only [bindS]
    rw [if_neg (show ¬ 38 + sz = 0 by omega), if_pos (kdt sz (by omega)), K_hasB (by omega) hk.1]
    simp only [bindS]
    rcases x10 with ⟨k4, x10, x11⟩ | ⟨k5, x10⟩
    · -- a step without brackets
      rw [if_neg (show ¬ (5 ≤ zI Mr1 28 sz ∧ zI Mr1 28 sz ≤ 6) by omega), if_pos rfl, x10]
      simp only [bindS]
      rw [if_neg (show ¬ (1 : Int) = 0 by omega), r421]
      obtain ⟨NS1, NB1⟩ := NS_step (op' := zI Mr1 34) (af' := zI Mr1 32) (kn' := zI Mr1 28) hP.2.2.2.2 (fun j _ => o34 j) (fun i hi => (x4.2.2.2.1 i (by omega)).2.2.2) (fun i hi => (x4.2.2.2.1 i (by omega)).1) (by rw [x11]; omega) k4
      have P1 : SP Mc1 Mr1 (sz + 1) dp := by
        refine ⟨⟨x7, x8, by omega⟩, ⟨c41, r421, hdp⟩, fun i hi => ?_, fun j hj => by rw [o8, o34]; exact hP.2.2.2.1 j hj, NS1⟩
        by_cases ei : i = sz
        · rw [ei]; exact ⟨x6, by rw [x9, x11]⟩
        · exact old i (by omega)
      have eref : (if (dp : Int) ≤ 0 then g_X12_readsBundle_62 (g_X12_readsBundle_17 f2) Mr1 else if 0 ≤ w32 ((dp : Int) - 1) ∧ w32 ((dp : Int) - 1) < ((4 : Nat) : Int) then (if zI Mr1 34 (w32 ((dp : Int) - 1)).toNat = w32 (zI Mr1 20 34 - 1) then g_X12_readsBundle_63 (g_X12_readsBundle_17 f2) 1 Mr1 else g_X12_readsBundle_62 (g_X12_readsBundle_17 f2) Mr1) else none) = ((g_X12_goesOn Mr1).bind fun q73 => g_X12_readsBundle_17 f2 q73.1 q73.2) := by
        have e62 : g_X12_readsBundle_62 (g_X12_readsBundle_17 f2) Mr1 = ((g_X12_goesOn Mr1).bind fun q73 => g_X12_readsBundle_17 f2 q73.1 q73.2) := by
          unfold g_X12_readsBundle_62 g_X12_readsBundle_63 g_X12_readsBundle_76
          rw [if_pos rfl]
        by_cases c0 : dp = 0
        · rw [if_pos (by omega), e62]
        · rw [if_neg (by omega), w32_id (x := (dp : Int) - 1) (by omega) (by omega), if_pos (by omega), x8, w32_id (x := ((sz + 1 : Nat) : Int) - 1) (by omega) (by omega), show (dp : Int) - 1 = ((dp - 1 : Nat) : Int) by omega, Int.toNat_natCast, if_neg (by have := NB1 (dp - 1) (by omega); omega), e62]
      rw [eref]
      unfold g_X6_compile_65
      obtain ⟨dp', j2, Mc', Mr', Mc2, Mr2, b1, b2, b3, b4, b5, b6, b7, b8, b9, b10⟩ := sim_close b dp 100000 100000 j1 Mc1 Mr1 (by omega) (by omega) x5 P1 NB1
      have b1' : g_X6_closeBrackets Mc1 = some ((), Mc') := b1
      have b2' : g_X12_goesOn Mr1 = g_X12_goesOn_57 Mr' := b2
      have FC : CB Mc Mc2 := (x3.cb (by omega)).trans b8
      have FR : RB Mr Mr2 := x4.rb.trans b9
      obtain ⟨s1, s2, s3⟩ := sim_end b b3 b5 b4 b6 b10 b7.2.1.2.1 (g_X6_compile_19 f1) sz
      rw [b1', b2']
      simp only [bindS]
      by_cases c59 : B j2 = 59
      · obtain ⟨g1, g2, g3⟩ := s1 c59
        rw [g1, g2]
        simp only [bindS]
        rw [w32_id (x := (sz : Int) + 1) (by omega) (by omega), show (sz : Int) + 1 = ((sz + 1 : Nat) : Int) by omega]
        have P3 := b7.mv (CF_u (k := 5) (v := ((j2 + 1 : Nat) : Int)) (by omega)) (RF_u (k := 9) (v := ((j2 + 1 : Nat) : Int)) (by omega))
        have F5 : CB Mc2 (uI Mc2 2 5 ((j2 + 1 : Nat) : Int)) := (CF_u (by omega)).cb
        have F9 : RB Mr2 (uI Mr2 20 9 ((j2 + 1 : Nat) : Int)) := (RF_u (by omega)).rb
        obtain ⟨fl, Mc3, Mr3, h1, h2, h3, h4, h5⟩ := ih (sz + 1) dp' (j2 + 1) f1 f2 _ _ (by omega) (by omega) (by omega) g3 P3 (K.rb (FR.trans F9))
        exact ⟨fl, Mc3, Mr3, h1, h2, (FC.trans F5).trans h3, (FR.trans F9).trans h4, h5⟩
      · obtain ⟨f2, rfl⟩ : ∃ g, f2 = g + 1 := ⟨f2 - 1, by omega⟩
        have e3 : ∀ v M, g_X12_readsBundle_17 (f2 + 1) v M = g_X12_readsBundle_17B (g_X12_readsBundle_17 f2) v M := fun _ _ => rfl
        by_cases cend : B j2 = -1 ∧ dp' = 0
        · obtain ⟨g1, g2⟩ := s2 cend.1 cend.2
          rw [g1, g2]
          simp only [bindS]
          rw [e3]
          unfold g_X12_readsBundle_17B g_X12_readsBundle_96 g_X12_readsBundle_101
          rw [if_neg (show ¬ (0 : Int) = 1 by omega), if_pos rfl, if_pos (Or.inr rfl)]
          refine ⟨1, Mc2, Mr2, rfl, rfl, FC, FR, Or.inl ⟨rfl, sz + 1, by omega, ?_⟩⟩
          rw [cend.2] at b7
          exact b7
        · obtain ⟨g1, g2⟩ := s3 c59 cend
          rw [g1, g2]
          simp only [bindS]
          rw [e3]
          unfold g_X12_readsBundle_17B g_X12_readsBundle_96 g_X12_readsBundle_101 g_X12_fails
          rw [if_neg (show ¬ (-1 : Int) = 1 by omega), if_neg (show ¬ (-1 : Int) = 0 by omega)]
          simp only [bindS]
          rw [if_pos trivial, if_pos (Or.inl trivial), b5.2.2.2.1]
          exact ⟨0, _, _, rfl, rfl, FC.trans (CF_u (by omega)).cb, FR.trans (RF_u (by omega)).rb, Or.inr ⟨rfl, by rw [zI_at, zI_at]; rfl⟩⟩
    · -- a step with brackets
      rw [if_pos (show 5 ≤ zI Mr1 28 sz ∧ zI Mr1 28 sz ≤ 6 by omega), if_neg (show ¬ (1 : Int) = 0 by omega), x10]
      obtain ⟨fl, Mc2, Mr2, b1, b2, b3, b4, b5⟩ := sim_open b (by omega) hdp x5 x7 c41 r421
      have hb40 : (0 : Int) ≤ (sz : Int) ∧ (sz : Int) < ((40 : Nat) : Int) := by omega
      have e292 : ∀ (f : Int) (M : MZ), (f = 0 ∨ f = 1) → g_X12_readsStep_292 sz f M = some (f, uI M 32 sz (zI M 20 34)) := by
        intro f M hf
        unfold g_X12_readsStep_292
        rw [if_pos hb40, if_pos hf, Int.toNat_natCast]
      have q34 : zI Mr2 20 34 = ((sz + 1 : Nat) : Int) := by rw [b4.2.1 34 (by omega) (by omega) (by omega) (by omega)]; exact x8
      have FC : CB Mc Mc2 := (x3.cb (by omega)).trans b3.cb
      have F32 : RB Mr2 (uI Mr2 32 sz ((sz + 1 : Nat) : Int)) := ⟨fun x h1 h2 h3 => sameH_uI (by omega), fun k _ _ _ _ _ => by rw [zI_uI, if_neg (by omega)], fun _ => rfl⟩
      have FR : RB Mr (uI Mr2 32 sz ((sz + 1 : Nat) : Int)) := (x4.rb.trans b4.rb).trans F32
      rw [b1, b2]
      simp only [bindS]
      rw [e292 0 _ (Or.inl rfl), e292 1 _ (Or.inr rfl), q34]
      rcases b5 with ⟨f_1, hd4, ⟨j2, s2⟩, m4, q42, m8, q8, mo⟩ | ⟨f_0, x5'⟩
      case inr =>
        subst f_0
        rw [if_pos rfl, if_pos rfl]
        simp only [bindS]
        rw [if_pos trivial]
        exact ⟨0, _, _, rfl, rfl, FC, FR, Or.inr ⟨rfl, by rw [zI_uI, if_neg (by omega)]; exact x5'⟩⟩
      case inl =>
        subst f_1
        rw [if_neg (show ¬ (1 : Int) = 0 by omega), if_neg (show ¬ (1 : Int) = 0 by omega)]
        simp only [bindS]
        have z42 : zI (uI Mr2 32 sz ((sz + 1 : Nat) : Int)) 20 42 = ((dp + 1 : Nat) : Int) := by rw [zI_uI, if_neg (by omega)]; exact q42
        have z34 : zI (uI Mr2 32 sz ((sz + 1 : Nat) : Int)) 20 34 = ((sz + 1 : Nat) : Int) := by rw [zI_uI, if_neg (by omega)]; exact q34
        have z34d : zI (uI Mr2 32 sz ((sz + 1 : Nat) : Int)) 34 dp = (sz : Int) := by rw [zI_uI, if_neg (by omega)]; exact q8
        unfold g_X6_compile_110 g_X12_readsBundle_63 g_X12_readsBundle_76
        rw [if_neg (show ¬ (1 : Int) = 0 by omega), z42, z34, if_neg (show ¬ ((dp + 1 : Nat) : Int) ≤ 0 by omega), w32_id (x := ((dp + 1 : Nat) : Int) - 1) (by omega) (by omega), show ((dp + 1 : Nat) : Int) - 1 = (dp : Int) by omega, if_pos (show (0 : Int) ≤ (dp : Int) ∧ (dp : Int) < ((4 : Nat) : Int) by omega), Int.toNat_natCast, z34d, w32_id (x := ((sz + 1 : Nat) : Int) - 1) (by omega) (by omega), if_pos (show (sz : Int) = ((sz + 1 : Nat) : Int) - 1 by omega), if_neg (show ¬ (1 : Int) = 0 by omega), w32_id (x := (sz : Int) + 1) (by omega) (by omega), show (sz : Int) + 1 = ((sz + 1 : Nat) : Int) by omega]
        have r2 : ∀ x k, x ≠ 20 → x ≠ 34 → (x ≠ 32 ∨ k ≠ sz) → zI (uI Mr2 32 sz ((sz + 1 : Nat) : Int)) x k = zI Mr1 x k := fun x k h1 h2 h3 => by rw [zI_uI, if_neg (by omega)]; exact (b4.1 x h1 h2 k).1
        have c2 : ∀ x k, x ≠ 2 → x ≠ 6 → x ≠ 8 → zI Mc2 x k = zI Mc1 x k := fun x k h1 h2 h3 => (b3.1 x h1 h2 h3 k).1
        have P3 : SP Mc2 (uI Mr2 32 sz ((sz + 1 : Nat) : Int)) (sz + 1) (dp + 1) := by
          refine ⟨⟨by rw [b3.2.2]; exact x7, z34, by omega⟩, ⟨m4, z42, by omega⟩, fun i hi => ?_, fun j hj => ?_, ?_⟩
          · have base : STQ Mc1 Mr1 i := by
              by_cases ei : i = sz
              · rw [ei]; exact x6
              · exact (old i (by omega)).1
            refine ⟨base.mv (fun k _ => c2 _ k (by omega) (by omega) (by omega)) (r2 28 i (by omega) (by omega) (by omega)) (r2 29 i (by omega) (by omega) (by omega)) (fun k _ _ => r2 30 k (by omega) (by omega) (by omega)) (r2 31 i (by omega) (by omega) (by omega)), ?_⟩
            by_cases ei : i = sz
            · rw [ei, zI_at, c2 _ 9 (by omega) (by omega) (by omega)]; exact x9
            · rw [c2 _ 9 (by omega) (by omega) (by omega), r2 32 i (by omega) (by omega) (by omega)]
              exact (old i (by omega)).2
          · by_cases ej : j = dp
            · rw [ej, m8, z34d]
            · rw [(mo j ej).1, zI_uI, if_neg (by omega), (mo j ej).2, o8, o34]
              exact hP.2.2.2.1 j (by omega)
          · exact NS_open hP.2.2.2.2 (fun j hj => by rw [zI_uI, if_neg (by omega), (mo j (by omega)).2, o34]) (fun i hi => by rw [r2 32 i (by omega) (by omega) (by omega)]; exact (x4.2.2.2.1 i (by omega)).2.2.2) (fun i hi => by rw [r2 28 i (by omega) (by omega) (by omega)]; exact (x4.2.2.2.1 i (by omega)).1) z34d (by rw [r2 28 sz (by omega) (by omega) (by omega)]; exact k5) (by omega)
        have S3 : SR n B j2 Mc2 (uI Mr2 32 sz ((sz + 1 : Nat) : Int)) := by
          obtain ⟨y1, y2, y3, y4, y5⟩ := s2
          exact ⟨y1, ⟨by rw [zI_uI, if_neg (by omega)]; exact y2.1, fun k hk => by rw [zI_uI, if_neg (by omega)]; exact y2.2 k hk⟩, y3, by rw [zI_uI, if_neg (by omega)]; exact y4, y5⟩
        obtain ⟨fl, Mc3, Mr3, h1, h2, h3, h4, h5⟩ := ih (sz + 1) (dp + 1) j2 f1 f2 _ _ (by omega) (by omega) (by omega) S3 P3 (K.rb FR)
        exact ⟨fl, Mc3, Mr3, h1, h2, FC.trans h3, FR.trans h4, h5⟩
end RDA
