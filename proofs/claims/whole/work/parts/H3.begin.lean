/-! a step of a bundle begins -/
section BG
variable {Mc Mr : MZ} {N T : Nat → Int} {L : List (Nat → Int)} {th pe po : Int} {D : Nat → Nat → Int} {m per sz at' dp dn : Nat} {st : Nat → Nat}
theorem ACT.f {A C : Option (Int × MZ)} {fl : Int} (h : ACT Mc Mr T th pe po D m per A C fl) : ACP Mc Mr T th pe po D m per (fun f M => ∀ F : Int → MZ → Option (Unit × MZ), (A.bind fun q => F q.1 q.2) = F f M) (C.bind fun q => if q.1 = 0 ∨ q.1 = 1 then some (q.1, q.2) else none) fl := by
  rcases h with ⟨Mc', Mr', h1, h2, h3⟩ | ⟨Mc', Mr', h1, h2, h3⟩
  · refine Or.inl ⟨Mc', Mr', fun F => by rw [h1]; rfl, ?_, h3⟩
    rw [h2]
    simp only [bindS]
    rw [if_pos (Or.inr trivial)]
  · refine Or.inr ⟨Mc', Mr', fun F => by rw [h1]; rfl, ?_, h3⟩
    rw [h2]
    simp only [bindS]
    rw [if_pos (Or.inl trivial)]
theorem sim_begin (H : RUN Mc Mr N T L th pe po D m per sz at' dp dn st) (hs : at' < sz) (hin : ∀ j, j + 1 = dp → (at' : Int) < zI Mr 32 (st j)) {mu : Nat} (hmu : 6 * (100 - dn) + dp ≤ mu) : TOK Mc Mr T th pe po per sz mu (g_X5_turn_63 Mc) (fun k7 => g_X12_doesAll_60 k7 at' Mr) ∨ TNO Mc Mr (g_X5_turn_63 Mc) (fun k7 => g_X12_doesAll_60 k7 at' Mr) := by
  have H' := H
  obtain ⟨hR, hP, ⟨z0, z1, z6, z7⟩, ⟨y44, y50⟩, hb, hg, hB, hCh, hE, hDi, hLk⟩ := H'
  have h40 := hP.1.2.2
  have hi : at' < 40 := by omega
  have hst := (hP.2.2.1 at' hs).1
  have haf := hP.af hs
  have hb40 : (0 : Int) ≤ (at' : Int) ∧ (at' : Int) < ((40 : Nat) : Int) := by omega
  unfold g_X5_turn_63 g_X12_doesAll_60 g_X12_doesAll_65
  rw [z6, K_stepAt hs h40 hP.1.1]
  simp only [bindS]
  rw [if_neg (show ¬ 38 + at' = 0 by omega), z0]
  by_cases cdn : dn = 100
  · refine Or.inr ⟨uI Mc 9 1 (fz 6 (zI Mr 29 at')), uI Mr 20 10 (fz 6 (zI Mr 29 at')), fz 6 (zI Mr 29 at'), ?_, fun k7 => ?_, fun x h1 h2 h3 => sameH_uI (by omega), (FRA_10 (M := Mr)).t, zI_at _ _ _ _, zI_at _ _ _ _, fz_pos (by omega) hst.2.1.2, HP.same (fun _ _ => rfl) hR.1.2.2.2.2.2.1, hR.2.2.1.u10 _⟩
    · rw [if_neg (by omega)]
      unfold g_X5_fail
      rw [if_pos (kdt at' hi), hst.2.1.1]
      rfl
    · unfold g_X12_goesFrom
      rw [y44, if_pos (by omega), R_stops hi]
      simp only [bindS]
  have hdn : dn < 100 := by omega
  have e96 : zI (uI Mc 9 0 ((dn + 1 : Nat) : Int)) 9 6 = (at' : Int) := by rw [zI_uI, if_neg (by omega)]; exact z6
  rw [if_pos (show (dn : Int) < 100 by omega), if_pos (kdt at' hi), w32_id (x := (dn : Int) + 1) (by omega) (by omega), show (dn : Int) + 1 = ((dn + 1 : Nat) : Int) by omega, e96, w32_id (x := (at' : Int) + 1) (by omega) (by omega), show (at' : Int) + 1 = ((at' + 1 : Nat) : Int) by omega]
  generalize e1 : uI (uI Mc 9 0 ((dn + 1 : Nat) : Int)) 9 6 ((at' + 1 : Nat) : Int) = Mc1
  generalize e2 : uI Mr 20 44 ((dn + 1 : Nat) : Int) = Mr1
  have F1 : FCT Mc Mc1 := by rw [← e1]; exact fun x h1 h2 h3 => (sameH_uI (by omega)).trans (sameH_uI (by omega))
  have F1' : ∀ x, x ≠ 9 → sameH Mc Mc1 x := by rw [← e1]; exact fun x h1 => (sameH_uI h1).trans (sameH_uI h1)
  have G1' : ∀ x, x ≠ 20 → sameH Mr Mr1 x := by rw [← e2]; exact fun x h1 => sameH_uI h1
  have G2' : ∀ k, k ≠ 44 → zI Mr1 20 k = zI Mr 20 k := by rw [← e2]; exact fun k hk => by rw [zI_uI, if_neg (fun q => hk q.2)]
  have G3' : ∀ k, zL Mr1 20 k = zL Mr 20 k := by rw [← e2]; exact fun k => rfl
  have y441 : zI Mr1 20 44 = ((dn + 1 : Nat) : Int) := by rw [← e2, zI_at]
  have G1 : FRT Mr Mr1 := ⟨fun x h1 _ _ _ => G1' x h1, fun k _ _ h44 _ _ => G2' k h44, fun k _ => G3' k, fun k _ => (G1' 24 (by omega) k).2.1⟩
  have w0 : zI Mc1 9 0 = ((dn + 1 : Nat) : Int) := by rw [← e1, zI_uI, if_neg (by omega), zI_at]
  have w6 : zI Mc1 9 6 = ((at' + 1 : Nat) : Int) := by rw [← e1, zI_at]
  have w9 : ∀ k, k ≠ 0 → k ≠ 6 → zI Mc1 9 k = zI Mc 9 k := fun k h1 h2 => by rw [← e1, zI_uI, if_neg (by omega), zI_uI, if_neg (by omega)]
  have w8 : zL Mc1 9 8 = zL Mc 9 8 := by rw [← e1]; rfl
  have hR1 : CR Mc1 Mr1 N T L th pe po D m per := hR.cnt F1' (w9 5 (by omega) (by omega)) G1' G2' G3'
  have hP1 := hP.t F1 G1
  have hst1 := (hP1.2.2.1 at' hs).1
  have k28 : zI Mr1 28 at' = zI Mr 28 at' := (G1' 28 (by omega) at').1
  have kc0 : zI Mc1 (38 + at') 0 = zI Mr 28 at' := by rw [hst1.1.1, k28]
  have gg1 : zL Mc1 9 8 = zL Mc 9 8 := w8
  have gg2 : zL Mr1 20 45 = zL Mc 9 8 := by rw [G3' 45]; exact hg.1
  have kr := hst.1.2
  -- the reference's beginning
  have eG : g_X12_goesFrom at' Mr = (if zI Mr1 28 at' = 5 then ((g_X12_lends at' Mr1).bind fun q41 => (if q41.1 = 0 then (g_X12_goesFrom_54 (-1) q41.2) else (g_X12_goesFrom_54 ((at' + 1 : Nat) : Int) q41.2))) else (if zI Mr1 28 at' = 6 then (if zI Mr1 30 (4 * at') = 0 then some (zI Mr1 32 at', Mr1) else ((g_X12_goesInto at' (zI Mr1 30 (4 * at')) 0 Mr1).bind fun q111 => (some (((at' + 1 : Nat) : Int), q111.2)))) else ((g_X12_doesOne at' Mr1).bind fun q68 => (if q68.1 = 0 then (g_X12_goesFrom_81 (-1) q68.2) else (g_X12_goesFrom_81 ((at' + 1 : Nat) : Int) q68.2))))) := by
    unfold g_X12_goesFrom
    rw [y44, if_neg (by omega), if_pos hb40, if_pos hb40, if_pos hb40, w32_id (x := (dn : Int) + 1) (by omega) (by omega), show (dn : Int) + 1 = ((dn + 1 : Nat) : Int) by omega, e2, w32_id (x := 4 * (at' : Int)) (by omega) (by omega), if_pos (show (0 : Int) ≤ 4 * (at' : Int) ∧ 4 * (at' : Int) < ((160 : Nat) : Int) by omega), if_pos (show (0 : Int) ≤ 4 * (at' : Int) ∧ 4 * (at' : Int) < ((160 : Nat) : Int) by omega), show (4 * (at' : Int)).toNat = 4 * at' by omega, Int.toNat_natCast, w32_id (x := (at' : Int) + 1) (by omega) (by omega), show (at' : Int) + 1 = ((at' + 1 : Nat) : Int) by omega]
  rw [kc0, eG, k28]
  -- steps without brackets
  have one : ∀ {ex : (Int → MZ → Option (Unit × MZ)) → Option (Unit × MZ)}, zI Mr 28 at' ≤ 4 → ACP Mc1 Mr1 T th pe po D m per (fun f M => ∀ F, ex F = F f M) (g_X12_doesOne at' Mr1) (fz 5 (zI Mr1 29 at')) → TOK Mc Mr T th pe po per sz mu (ex (g_X5_turn_299 (38 + at'))) (fun k7 => ((g_X12_doesOne at' Mr1).bind fun q68 => (if q68.1 = 0 then (g_X12_goesFrom_81 (-1) q68.2) else (g_X12_goesFrom_81 ((at' + 1 : Nat) : Int) q68.2))).bind fun q62 => k7 q62.1 q62.2) ∨ TNO Mc Mr (ex (g_X5_turn_299 (38 + at'))) (fun k7 => ((g_X12_doesOne at' Mr1).bind fun q68 => (if q68.1 = 0 then (g_X12_goesFrom_81 (-1) q68.2) else (g_X12_goesFrom_81 ((at' + 1 : Nat) : Int) q68.2))).bind fun q62 => k7 q62.1 q62.2) := by
    intro ex _ hA
    refine step_fin H hs hdn hin e1.symm e2.symm hA rfl (fun k7 => ?_) hmu
    cases g_X12_doesOne at' Mr1 with
    | none => rfl
    | some q =>
      show ((if q.1 = 0 then g_X12_goesFrom_81 (-1) q.2 else g_X12_goesFrom_81 ((at' + 1 : Nat) : Int) q.2).bind fun q62 => k7 q62.1 q62.2) = (if q.1 = 0 then k7 (-1) q.2 else k7 ((at' + 1 : Nat) : Int) q.2)
      unfold g_X12_goesFrom_81
      by_cases c : q.1 = 0
      · rw [if_pos c, if_pos c]; rfl
      · rw [if_neg c, if_neg c]; rfl
  have e41 : ∀ k : Int, zI Mr 28 at' = k → (k = 0 ∨ k = 1) → g_X12_doesOne at' Mr1 = ((g_X12_swapsOne at' Mr1).bind fun q => if q.1 = 0 ∨ q.1 = 1 then some (q.1, q.2) else none) := by
    intro k hk h01
    unfold g_X12_doesOne g_X12_doesOne_4 g_X12_doesOne_40
    rw [if_pos hb40, Int.toNat_natCast, k28, hk]
    rcases h01 with rfl | rfl
    · rw [if_pos rfl]
    · rw [if_neg (by omega), if_pos rfl]
  have e43 : zI Mr 28 at' = 3 → g_X12_doesOne at' Mr1 = ((g_X12_dropsOne at' Mr1).bind fun q => if q.1 = 0 ∨ q.1 = 1 then some (q.1, q.2) else none) := by
    intro hk
    unfold g_X12_doesOne g_X12_doesOne_4
    rw [if_pos hb40, Int.toNat_natCast, k28, hk, if_neg (by omega), if_neg (by omega), if_neg (by omega), if_pos rfl]
  have hk7 : zI Mr 28 at' = 0 ∨ zI Mr 28 at' = 1 ∨ zI Mr 28 at' = 2 ∨ zI Mr 28 at' = 3 ∨ zI Mr 28 at' = 4 ∨ zI Mr 28 at' = 5 ∨ zI Mr 28 at' = 6 := by omega
  rcases hk7 with ek | ek | ek | ek | ek | ek | ek
  · -- in
    rw [ek, if_pos rfl, if_neg (show ¬ (0 : Int) = 5 by omega), if_neg (show ¬ (0 : Int) = 6 by omega)]
    have hq := hst1.2.2.1 (by rw [k28]; omega)
    have hA := (a_in hR1 hi hq.1 hq.2 (by rw [k28]; exact ek) gg1 gg2 hg.2).f
    rw [← e41 0 ek (Or.inl rfl)] at hA
    exact one (ex := fun F => (g_X5_doIn (38 + at') Mc1).bind fun q => F q.1 q.2) (by omega) hA
  · -- out
    rw [ek, if_neg (show ¬ (1 : Int) = 0 by omega), if_pos rfl, if_neg (show ¬ (1 : Int) = 5 by omega), if_neg (show ¬ (1 : Int) = 6 by omega)]
    have hq := hst1.2.2.1 (by rw [k28]; omega)
    have hA := (a_out hR1 hi hq.1 hq.2 (by rw [k28]; exact ek) gg1 gg2 hg.2).f
    rw [← e41 1 ek (Or.inr rfl)] at hA
    exact one (ex := fun F => (g_X5_doOut (38 + at') Mc1).bind fun q => F q.1 q.2) (by omega) hA
  · -- add
    rw [ek, if_neg (show ¬ (2 : Int) = 0 by omega), if_neg (show ¬ (2 : Int) = 1 by omega), if_pos rfl, if_neg (show ¬ (2 : Int) = 5 by omega), if_neg (show ¬ (2 : Int) = 6 by omega)]
    have hq := hst1.2.2.2.1 (by rw [k28]; exact ek)
    have hA := a_add hR1 hi hq.1 hq.2 (by rw [k28]; exact ek) gg1 gg2 hg.2
    exact one (ex := fun F => (g_X5_isLocked (zI Mc1 (38 + at') 2) Mc1).bind fun q183 => (if q183.1 = 0 then ((g_X2_addStake 78 (zI q183.2 9 5) (zI q183.2 (38 + at') 2) (zI q183.2 (38 + at') 4) (zI q183.2 (38 + at') 5) 0 (zI q183.2 (38 + at') 7) q183.2).bind fun q214 => (if q214.1 = (-1) then (F 0 q214.2) else (F 1 q214.2))) else (F 0 q183.2))) (by omega) hA
  · -- drop
    rw [ek, if_neg (show ¬ (3 : Int) = 0 by omega), if_neg (show ¬ (3 : Int) = 1 by omega), if_neg (show ¬ (3 : Int) = 2 by omega), if_pos rfl, if_neg (show ¬ (3 : Int) = 5 by omega), if_neg (show ¬ (3 : Int) = 6 by omega)]
    have hq := hst1.2.2.2.2.1 (by rw [k28]; exact ek)
    have hA := (a_drop hR1 hi hq gg1 gg2 hg.2).f
    rw [← e43 ek] at hA
    exact one (ex := fun F => (g_X5_doDrop (38 + at') Mc1).bind fun q => F q.1 q.2) (by omega) hA
  · -- least
    rw [ek, if_neg (show ¬ (4 : Int) = 0 by omega), if_neg (show ¬ (4 : Int) = 1 by omega), if_neg (show ¬ (4 : Int) = 2 by omega), if_neg (show ¬ (4 : Int) = 3 by omega), if_pos rfl, if_neg (show ¬ (4 : Int) = 5 by omega), if_neg (show ¬ (4 : Int) = 6 by omega)]
    have hq := hst1.2.2.2.2.2.1 (by rw [k28]; exact ek)
    have hA := a_least hR1 hi hq (by rw [k28]; exact ek) gg1 gg2 hg.2
    exact one (ex := fun F => (g_X2_hasThing 78 (zI Mc1 (38 + at') 6) Mc1).bind fun q247 => (if q247.1 = 0 then (F 0 q247.2) else ((g_X2_purseOf 78 (zI q247.2 9 5) (zI q247.2 (38 + at') 6) q247.2).bind fun q265 => (if q265.1 < (zI q265.2 (38 + at') 7) then (F 0 q265.2) else (F 1 q265.2))))) (by omega) hA
  · -- lend
    have hdp := H.deep hs (by omega) hin
    rw [ek, if_neg (show ¬ (5 : Int) = 0 by omega), if_neg (show ¬ (5 : Int) = 1 by omega), if_neg (show ¬ (5 : Int) = 2 by omega), if_neg (show ¬ (5 : Int) = 3 by omega), if_neg (show ¬ (5 : Int) = 4 by omega), if_pos rfl, if_pos rfl]
    have hq := hst1.2.2.1 (by rw [k28]; omega)
    rcases a_lend hR1 hi hq.1 hq.2 (by rw [k28]; exact ek) gg1 gg2 hg.2 (dp := dp) (by omega) (by rw [w9 7 (by omega) (by omega)]; exact z7) w6 (by rw [G2' 50 (by omega)]; exact y50) with ⟨Mc2, Mr2, a1, a2, p, k, a, l1, l2, l3, l4, l5, l6, l7, l8, l9, ⟨c1, c2, c3, c4, c5, c6⟩, ⟨d1, d2, d3, d4, d5, d6, d7⟩⟩ | ⟨a1, a2⟩
    · have F2 := F1.trans l8
      have G2 := G1.trans l9
      have mh := mk_has m hR.2.2.2.2.2.2.2.2.2.1.2.1 p l1
      have e30 : ∀ x, zI Mr2 30 x = zI Mr 30 x := fun x => (G2.1 30 (by omega) (by omega) (by omega) (by omega) x).1
      have e28 : ∀ x, zI Mr2 28 x = zI Mr 28 x := fun x => (G2.1 28 (by omega) (by omega) (by omega) (by omega) x).1
      have e32 : ∀ x, zI Mr2 32 x = zI Mr 32 x := fun x => (G2.1 32 (by omega) (by omega) (by omega) (by omega) x).1
      have l3' : zI Mr 30 (4 * at') = (p : Int) := by rw [← (G1' 30 (by omega) (4 * at')).1]; exact l3
      have l4' : zI Mr 30 (4 * at' + 1) = (k : Int) := by rw [← (G1' 30 (by omega) (4 * at' + 1)).1]; exact l4
      refine Or.inl ⟨Mc2, Mr2, _, L, _, _, at' + 1, dp + 1, dn + 1, fun j => if j = dp then at' else st j, 1, ?_, fun k7 => ?_, F2, G2, ⟨l7, hP.t F2 G2, ⟨?_, ?_, ?_, c1⟩, ⟨?_, d1⟩, by omega, ?_, fun j hj => ?_, fun j hj => ?_, fun j hj => ?_, fun j j' h1 h2 h3 h4 => ?_, fun q hq hb' => ?_⟩, ⟨by omega, fun _ _ _ => rfl⟩, by omega⟩
      · rw [a1]
        simp only [bindS]
        unfold g_X5_turn_299 g_X5_turn_309
        rw [if_neg (by omega)]
      · rw [a2]
        simp only [bindS]
        unfold g_X12_goesFrom_54
        rw [if_neg (show ¬ (1 : Int) = 0 by omega)]
        rfl
      · rw [c4 0 (by omega)]; exact w0
      · rw [c4 1 (by omega), w9 1 (by omega) (by omega)]; exact z1
      · rw [c4 6 (by omega)]; exact w6
      · rw [d5]; exact y441
      · rw [d6, c5, w8, gg2]; exact ⟨rfl, hg.2⟩
      · show (if j = dp then at' else st j) < sz ∧ BRo Mc2 Mr2 _ _ j (if j = dp then at' else st j)
        by_cases ej : j = dp
        · rw [if_pos ej, ej]
          refine ⟨hs, c2, d2, Or.inr ⟨by rw [e28]; exact ek, d3, by rw [c3, d4], by rw [d4]; exact l6, p, k, l1, l2, by rw [e30]; exact l3', by rw [e30]; exact l4', (mh p l1).2 (Or.inr rfl), ?_, ?_⟩⟩
          · show (if p = p ∧ k = k then a else D p k) = _
            rw [if_pos ⟨rfl, rfl⟩, d4]
          · show (if p = p ∧ 1 - k = k then a else D p (1 - k)) = 0
            rw [if_neg (by omega)]
            have h5 := hR.2.2.2.2.2.2.2.2.2.2.2 p l1 l5
            have hkk : k = 0 ∨ k = 1 := by omega
            rcases hkk with e | e
            · rw [e]; exact h5.2
            · rw [e]; exact h5.1
        · rw [if_neg ej]
          obtain ⟨q1, q2⟩ := hB j (by omega)
          have c6' := c6 j ej
          have d7' := d7 j ej
          refine ⟨q1, q2.mv (by rw [c6'.1]; exact (F1' 10 (by omega) j).1) (by rw [c6'.2.1]; exact (F1' 11 (by omega) j).1) (by rw [c6'.2.2]; exact (F1' 12 (by omega) j).1) (by rw [d7'.1]; exact (G1' 35 (by omega) j).1) (by rw [d7'.2.1]; exact (G1' 36 (by omega) j).1) (by rw [d7'.2.2]; exact (G1' 37 (by omega) j).2.1) (e28 _) e30 (fun q k' hq5 hk' _ _ hbb => ⟨(mh q hq5).2 (Or.inl hbb), ?_⟩)⟩
          show (if q = p ∧ k' = k then a else D q k') = D q k'
          rw [if_neg (fun z => l5 (by rw [← z.1]; exact hbb))]
      · show (if j = dp then at' else st j) < (if j + 1 = dp then at' else st (j + 1)) ∧ (((if j + 1 = dp then at' else st (j + 1) : Nat)) : Int) < zI Mr2 32 (if j = dp then at' else st j)
        rw [if_neg (show ¬ j = dp by omega), e32]
        by_cases ej : j + 1 = dp
        · rw [if_pos ej]
          exact ⟨(hE j ej).1, hin j ej⟩
        · rw [if_neg ej]
          exact hCh j (by omega)
      · have ej : j = dp := by omega
        show (if j = dp then at' else st j) < at' + 1 ∧ ((at' + 1 : Nat) : Int) ≤ zI Mr2 32 (if j = dp then at' else st j)
        rw [if_pos ej, e32]
        have := haf.2.1 (by omega)
        exact ⟨by omega, by omega⟩
      · have h3' : zI Mr2 28 (if j = dp then at' else st j) = 5 := h3
        have h4' : zI Mr2 28 (if j' = dp then at' else st j') = 5 := h4
        show zI Mr2 30 (4 * (if j = dp then at' else st j)) ≠ zI Mr2 30 (4 * (if j' = dp then at' else st j'))
        rw [if_neg (show ¬ j = dp by omega)] at h3' ⊢
        rw [e30, e30]
        rw [e28] at h3'
        by_cases ej : j' = dp
        · rw [if_pos ej, l3']
          intro q
          rcases (hB j (by omega)).2.2.2 with w | ⟨_, _, _, _, p', k', v1, v2, v3, v4, v5, _⟩
          · omega
          · rw [v3] at q
            exact l5 (by rw [show p = p' by omega]; exact v5)
        · rw [if_neg ej] at h4' ⊢
          rw [e28] at h4'
          exact hDi j j' h1 (by omega) h3' h4'
      · rcases (mh q hq).1 hb' with z | z
        · obtain ⟨j, x1, x2, x3⟩ := hLk q hq z
          refine ⟨j, by omega, ?_, ?_⟩
          · show zI Mr2 28 (if j = dp then at' else st j) = 5
            rw [if_neg (by omega), e28]; exact x2
          · show zI Mr2 30 (4 * (if j = dp then at' else st j)) = (q : Int)
            rw [if_neg (by omega), e30]; exact x3
        · refine ⟨dp, by omega, ?_, ?_⟩
          · show zI Mr2 28 (if dp = dp then at' else st dp) = 5
            rw [if_pos rfl, e28]; exact ek
          · show zI Mr2 30 (4 * (if dp = dp then at' else st dp)) = (q : Int)
            rw [if_pos rfl, e30, l3', z]
    · refine Or.inr ⟨uI Mc1 9 1 (fz 5 (zI Mr 29 at')), uI Mr1 20 10 (fz 5 (zI Mr 29 at')), fz 5 (zI Mr 29 at'), ?_, fun k7 => ?_, F1.trans (fun x h1 h2 h3 => sameH_uI (by omega)), G1.trans (FRA_10 (M := Mr1)).t, zI_at _ _ _ _, zI_at _ _ _ _, fz_pos (by omega) hst.2.1.2, HP.same (fun _ _ => rfl) hR1.1.2.2.2.2.2.1, hR1.2.2.1.u10 _⟩
      · rw [a1]
        simp only [bindS]
        unfold g_X5_turn_299 g_X5_turn_309 g_X5_fail
        rw [if_pos (show (0 : Int) = 0 from rfl), if_pos (kdt at' hi), (F1' (38 + at') (by omega) 1).1, hst.2.1.1]
        rfl
      · rw [a2]
        simp only [bindS]
        unfold g_X12_goesFrom_54
        rw [if_pos trivial, (G1' 29 (by omega) at').1]
        rfl
  · -- times
    have hdp := H.deep hs (by omega) hin
    rw [ek, if_neg (show ¬ (6 : Int) = 0 by omega), if_neg (show ¬ (6 : Int) = 1 by omega), if_neg (show ¬ (6 : Int) = 2 by omega), if_neg (show ¬ (6 : Int) = 3 by omega), if_neg (show ¬ (6 : Int) = 4 by omega), if_neg (show ¬ (6 : Int) = 5 by omega), if_neg (show ¬ (6 : Int) = 5 by omega), if_pos rfl]
    obtain ⟨q1, q2⟩ := hst1.2.2.2.2.2.2 (by rw [k28]; exact ek)
    have k9 : zI Mc1 (38 + at') 9 = zI Mr 32 at' := by rw [(F1' (38 + at') (by omega) 9).1]; exact (hP.2.2.1 at' hs).2
    have r32 : zI Mr1 32 at' = zI Mr 32 at' := (G1' 32 (by omega) at').1
    obtain ⟨w, ew⟩ : ∃ w : Nat, zI Mr 32 at' = w := ⟨(zI Mr 32 at').toNat, by have := haf.1.1; omega⟩
    unfold g_X5_doTimes
    rw [if_pos (kdt at' hi), q1]
    by_cases c0 : zI Mr1 30 (4 * at') = 0
    · rw [if_neg (show ¬ (1 : Int) ≤ zI Mr1 30 (4 * at') by omega), if_pos c0, k9, r32, ew]
      simp only [bindS]
      have F2 : FCT Mc (uI Mc1 9 6 (w : Int)) := F1.trans (fun x h1 h2 h3 => sameH_uI (by omega))
      rw [ew] at haf
      refine Or.inl ⟨uI Mc1 9 6 (w : Int), Mr1, N, L, D, m, w, dp, dn + 1, st, 1, ?_, fun k7 => rfl, F2, G1, ⟨hR1.cnt (fun x h1 => sameH_uI h1) (by rw [zI_uI, if_neg (by omega)]) (fun _ _ => sameH.rfl) (fun _ _ => rfl) (fun _ => rfl), hP.t F2 G1, ⟨?_, ?_, zI_at _ _ _ _, ?_⟩, ⟨y441, ?_⟩, by omega, ?_, fun j hj => ⟨(hB j hj).1, (hB j hj).2.mv ?_ ?_ ?_ (G1' 35 (by omega) j).1 (G1' 36 (by omega) j).1 (G1' 37 (by omega) j).2.1 (G1' 28 (by omega) _).1 (fun x => (G1' 30 (by omega) x).1) (fun p k _ _ _ _ hb => ⟨hb, rfl⟩)⟩, fun j hj => ?_, fun j hj => ?_, fun j j' h1 h2 h3 h4 => ?_, fun q hq hb' => ?_⟩, ⟨by omega, fun _ _ _ => rfl⟩, by omega⟩
      · unfold g_X5_turn_299 g_X5_turn_309
        rw [if_neg (by omega)]
      · rw [zI_uI, if_neg (by omega)]; exact w0
      · rw [zI_uI, if_neg (by omega), w9 1 (by omega) (by omega)]; exact z1
      · rw [zI_uI, if_neg (by omega), w9 7 (by omega) (by omega)]; exact z7
      · rw [G2' 50 (by omega)]; exact y50
      · rw [zL_uI, w8, gg2]; exact ⟨rfl, hg.2⟩
      · rw [zI_uI, if_neg (by omega)]; exact (F1' 10 (by omega) j).1
      · rw [zI_uI, if_neg (by omega)]; exact (F1' 11 (by omega) j).1
      · rw [zI_uI, if_neg (by omega)]; exact (F1' 12 (by omega) j).1
      · rw [(G1' 32 (by omega) _).1]; exact hCh j hj
      · rw [(G1' 32 (by omega) _).1]
        have h1 := hE j hj
        have h2 := (hP.af (hB j (by omega)).1).2.2 at' h1.1 (hin j hj)
        rw [ew] at h2
        exact ⟨by omega, h2⟩
      · rw [(G1' 30 (by omega) _).1, (G1' 30 (by omega) _).1]
        rw [(G1' 28 (by omega) _).1] at h3 h4
        exact hDi j j' h1 h2 h3 h4
      · obtain ⟨j, x1, x2, x3⟩ := hLk q hq hb'
        exact ⟨j, x1, by rw [(G1' 28 (by omega) _).1]; exact x2, by rw [(G1' 30 (by omega) _).1]; exact x3⟩
    · rw [if_pos (show (1 : Int) ≤ zI Mr1 30 (4 * at') by omega), if_neg c0, K_openB (dp := dp) (at' := at') (by omega) (by omega) (by rw [w9 7 (by omega) (by omega)]; exact z7) w6, R_goesI (dp := dp) (by omega) (by rw [G2' 50 (by omega)]; exact y50)]
      simp only [bindS]
      generalize zI Mr1 30 (4 * at') = v at *
      generalize eMc2 : uI (uI (uI (uI Mc1 10 dp (at' : Int)) 11 dp v) 12 dp 0) 9 7 ((dp + 1 : Nat) : Int) = Mc2
      generalize eMr2 : uI (uL (uI (uI Mr1 35 dp (at' : Int)) 36 dp v) 37 dp 0) 20 50 ((dp + 1 : Nat) : Int) = Mr2
      have fc : ∀ x, ¬ (9 ≤ x ∧ x ≤ 12) → sameH Mc1 Mc2 x := fun x hx => by rw [← eMc2]; exact (((sameH_uI (by omega)).trans (sameH_uI (by omega))).trans (sameH_uI (by omega))).trans (sameH_uI (by omega))
      have fr : ∀ x, x ≠ 20 → ¬ (35 ≤ x ∧ x ≤ 37) → sameH Mr1 Mr2 x := fun x h1 hx => by rw [← eMr2]; exact (((sameH_uI (by omega)).trans (sameH_uI (by omega))).trans (sameH_uL (by omega))).trans (sameH_uI (by omega))
      have z9 : ∀ j, j ≠ 7 → zI Mc2 9 j = zI Mc1 9 j := fun j hj => by rw [← eMc2, zI_uI, if_neg (by omega), zI_uI, if_neg (by omega), zI_uI, if_neg (by omega), zI_uI, if_neg (by omega)]
      have z20 : ∀ j, j ≠ 50 → zI Mr2 20 j = zI Mr1 20 j := fun j h2 => by rw [← eMr2, zI_uI, if_neg (by omega), zI_uL, zI_uI, if_neg (by omega), zI_uI, if_neg (by omega)]
      have zl20 : ∀ j, zL Mr2 20 j = zL Mr1 20 j := fun j => by rw [← eMr2, zL_uI, zL_uL, if_neg (by omega), zL_uI, zL_uI]
      have F2 : FCT Mc Mc2 := F1.trans (fun x h1 h2 h3 => fc x (by omega))
      have G2 : FRT Mr Mr2 := G1.trans ⟨fun x h1 _ _ h4 => fr x h1 h4, fun k _ _ _ _ h5 => z20 k h5, fun k _ => zl20 k, fun k _ => (fr 24 (by omega) (by omega) k).2.1⟩
      have hR2 : CR Mc2 Mr2 N T L th pe po D m per := by
        obtain ⟨R, RR, K, W, hM, hk, ht, hD, ⟨p1, p2, p3⟩, ⟨l1, l2, l3⟩, l4, l5⟩ := hR1
        exact ⟨R.same (fun x h1 h2 => fc x (by omega)), RR.f20 (fun x hx => fr x (by omega) (by omega)) (fun k hk => z20 k (by omega)), K.f20 (fun x hx => fr x (by omega) (by omega)) (fun k _ => zl20 k), W, hM, hk, ht, hD, ⟨by rw [z9 5 (by omega)]; exact p1, by rw [z20 43 (by omega)]; exact p2, p3⟩, ⟨by rw [z20 46 (by omega)]; exact l1, l2, fun q hq => by rw [(fc 13 (by omega) q).1]; exact l3 q hq⟩, l4, l5⟩
      have e30 : ∀ x, zI Mr2 30 x = zI Mr 30 x := fun x => (G2.1 30 (by omega) (by omega) (by omega) (by omega) x).1
      have e28 : ∀ x, zI Mr2 28 x = zI Mr 28 x := fun x => (G2.1 28 (by omega) (by omega) (by omega) (by omega) x).1
      have e32 : ∀ x, zI Mr2 32 x = zI Mr 32 x := fun x => (G2.1 32 (by omega) (by omega) (by omega) (by omega) x).1
      refine Or.inl ⟨Mc2, Mr2, N, L, D, m, at' + 1, dp + 1, dn + 1, fun j => if j = dp then at' else st j, 1, ?_, fun k7 => rfl, F2, G2, ⟨hR2, hP.t F2 G2, ⟨?_, ?_, ?_, ?_⟩, ⟨?_, ?_⟩, by omega, ?_, fun j hj => ?_, fun j hj => ?_, fun j hj => ?_, fun j j' h1 h2 h3 h4 => ?_, fun q hq hb' => ?_⟩, ⟨by omega, fun _ _ _ => rfl⟩, by omega⟩
      · unfold g_X5_turn_299 g_X5_turn_309
        rw [if_neg (by omega)]
      · rw [z9 0 (by omega)]; exact w0
      · rw [z9 1 (by omega), w9 1 (by omega) (by omega)]; exact z1
      · rw [z9 6 (by omega)]; exact w6
      · rw [← eMc2, zI_at]
      · rw [z20 44 (by omega)]; exact y441
      · rw [← eMr2, zI_at]
      · rw [zl20, show zL Mc2 9 8 = zL Mc1 9 8 by rw [← eMc2]; rfl, w8, gg2]; exact ⟨rfl, hg.2⟩
      · show (if j = dp then at' else st j) < sz ∧ BRo Mc2 Mr2 D m j (if j = dp then at' else st j)
        by_cases ej : j = dp
        · rw [if_pos ej, ej]
          have x36 : zI Mr2 36 dp = v := by rw [← eMr2, zI_uI, if_neg (by omega), zI_uL, zI_at]
          refine ⟨hs, ?_, ?_, Or.inl ⟨by rw [e28]; exact ek, ?_, by rw [x36]; omega⟩⟩
          · rw [← eMc2, zI_uI, if_neg (by omega), zI_uI, if_neg (by omega), zI_uI, if_neg (by omega), zI_at]
          · rw [← eMr2, zI_uI, if_neg (by omega), zI_uL, zI_uI, if_neg (by omega), zI_at]
          · rw [x36, ← eMc2, zI_uI, if_neg (by omega), zI_uI, if_neg (by omega), zI_at]
        · rw [if_neg ej]
          obtain ⟨q1', q2'⟩ := hB j (by omega)
          refine ⟨q1', q2'.mv ?_ ?_ ?_ ?_ ?_ ?_ (e28 _) e30 (fun p k _ _ _ _ hb => ⟨hb, rfl⟩)⟩
          · rw [← eMc2, zI_uI, if_neg (by omega), zI_uI, if_neg (by omega), zI_uI, if_neg (by omega), zI_uI, if_neg (by omega), (F1' 10 (by omega) j).1]
          · rw [← eMc2, zI_uI, if_neg (by omega), zI_uI, if_neg (by omega), zI_uI, if_neg (by omega), zI_uI, if_neg (by omega), (F1' 11 (by omega) j).1]
          · rw [← eMc2, zI_uI, if_neg (by omega), zI_uI, if_neg (by omega), zI_uI, if_neg (by omega), zI_uI, if_neg (by omega), (F1' 12 (by omega) j).1]
          · rw [← eMr2, zI_uI, if_neg (by omega), zI_uL, zI_uI, if_neg (by omega), zI_uI, if_neg (by omega), (G1' 35 (by omega) j).1]
          · rw [← eMr2, zI_uI, if_neg (by omega), zI_uL, zI_uI, if_neg (by omega), zI_uI, if_neg (by omega), (G1' 36 (by omega) j).1]
          · rw [← eMr2, zL_uI, zL_uL, if_neg (by omega), zL_uI, zL_uI, (G1' 37 (by omega) j).2.1]
      · show (if j = dp then at' else st j) < (if j + 1 = dp then at' else st (j + 1)) ∧ (((if j + 1 = dp then at' else st (j + 1) : Nat)) : Int) < zI Mr2 32 (if j = dp then at' else st j)
        rw [if_neg (show ¬ j = dp by omega), e32]
        by_cases ej : j + 1 = dp
        · rw [if_pos ej]
          exact ⟨(hE j ej).1, hin j ej⟩
        · rw [if_neg ej]
          exact hCh j (by omega)
      · have ej : j = dp := by omega
        show (if j = dp then at' else st j) < at' + 1 ∧ ((at' + 1 : Nat) : Int) ≤ zI Mr2 32 (if j = dp then at' else st j)
        rw [if_pos ej, e32]
        have := haf.2.1 (by omega)
        exact ⟨by omega, by omega⟩
      · have h3' : zI Mr2 28 (if j = dp then at' else st j) = 5 := h3
        have h4' : zI Mr2 28 (if j' = dp then at' else st j') = 5 := h4
        show zI Mr2 30 (4 * (if j = dp then at' else st j)) ≠ zI Mr2 30 (4 * (if j' = dp then at' else st j'))
        rw [if_neg (show ¬ j = dp by omega)] at h3' ⊢
        rw [e30, e30]
        rw [e28] at h3' h4'
        by_cases ej : j' = dp
        · rw [if_pos ej] at h4'
          omega
        · rw [if_neg ej] at h4' ⊢
          exact hDi j j' h1 (by omega) h3' h4'
      · obtain ⟨j, x1, x2, x3⟩ := hLk q hq hb'
        refine ⟨j, by omega, ?_, ?_⟩
        · show zI Mr2 28 (if j = dp then at' else st j) = 5
          rw [if_neg (by omega), e28]; exact x2
        · show zI Mr2 30 (4 * (if j = dp then at' else st j)) = (q : Int)
          rw [if_neg (by omega), e30]; exact x3
end BG
