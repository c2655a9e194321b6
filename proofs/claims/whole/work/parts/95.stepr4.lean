/-! one step, the reference's half: the end -/
section XU
variable {M : MZ} {N T : Nat → Int} {L : List (Nat → Int)} {th pe po : Int}
theorem R_steps (R : RepR M N T L th pe po) (K : KON M) (W : WF N T L th pe po) {p : Nat} {side e o left : Int} (h : Pgo N T L p po side e o left) (hleft : zL M 20 29 = left) : ∃ M', g_X12_steps p side e o M = some (if xE N T L p side e o left then 1 else 0, M') ∧ RepR M' (xN N T L p side e o left) T (xL N T L p side e o left) th pe po ∧ KON M' ∧ (∀ x, x ≠ 20 → x ≠ 23 → sameH M M' x) ∧ zL M' 20 29 = xLe N T L p side e o left ∧ zL M' 20 30 = w64 (zL M 20 30 + w64 (xCo N T L p side e o left + xFe N T L p side e o left)) ∧ zL M' 20 31 = w64 (zL M 20 31 + xGo N T L p side e o left) ∧ zL M' 20 32 = w64 (zL M 20 32 + xFe N T L p side e o left) ∧ zI M' 20 33 = (if xC N T L p side e o left then w32 (zI M 20 33 + 1) else zI M 20 33) ∧ (∀ k, k ≠ 33 → zI M' 20 k = zI M 20 k) ∧ (∀ k, k < 29 ∨ 32 < k → zL M' 20 k = zL M 20 k) := by
  have h12 := R.2.2.2.2.2
  have h' := h
  obtain ⟨hP, hA, hA0, hA1, hrz⟩ := h.pst W h12
  have hco := sCo_nn hP
  have hgo := sGo_nn hP
  have hfe := sFe_nn hP
  have hle := sLe_r hP
  obtain ⟨zz1, zz2, zz3⟩ := xZ_rz W h12 h
  have W2 := x2_WF W h12 h
  rw [R_stepsA R K W h hleft]
  obtain ⟨hp, hq, hs, ho, he, hge, hlef⟩ := h'
  obtain ⟨hk, hk2⟩ := xk_r hs
  have hco' : 0 ≤ xCo N T L p side e o left ∧ xCo N T L p side e o left ≤ 10000000000 := hco
  have hgo' : 0 ≤ xGo N T L p side e o left ∧ xGo N T L p side e o left ≤ 10000000000 := hgo
  have hfe' : 0 ≤ xFe N T L p side e o left ∧ xFe N T L p side e o left ≤ 10000000000 := hfe
  have hle' : 0 ≤ xLe N T L p side e o left ∧ xLe N T L p side e o left ≤ left := ⟨hle.1, hle.2.1⟩
  have eLe : xLe N T L p side e o left = if o = 0 then left - (xCo N T L p side e o left + xFe N T L p side e o left) else left - xGo N T L p side e o left := rfl
  -- the fee
  obtain ⟨M1, a1, R1, F1⟩ := R_share R W.2.2 (k := xk side) hp hk2 hrz.1 (xFe N T L p side e o left)
  rw [hk] at a1
  have R1' : RepR M1 (x0 N T L p side e o left) T (xL1 N T L p side e o left) th pe po := R1
  have R2 := R1'.cell (j := hc p (xk side)) (by unfold hc; omega) (w64 (x0 N T L p side e o left (hc p (xk side)) + w64 (xCo N T L p side e o left + xFe N T L p side e o left)))
  have b1 : g_X12_morePool p (w32 (2 + side)) (w64 (xCo N T L p side e o left + xFe N T L p side e o left)) M1 = some ((), uL M1 23 (hc p (xk side)) (w64 (x0 N T L p side e o left (hc p (xk side)) + w64 (xCo N T L p side e o left + xFe N T L p side e o left)))) := by
    rw [w32_id (by omega) (by omega), R_morePool hp (by omega) (by omega), show 22 + 23 * p + (2 + side).toNat = hc p (xk side) by unfold hc xk; omega, R1'.2.2.1 _ (by unfold hc; omega)]
  generalize eM2 : uL M1 23 (hc p (xk side)) (w64 (x0 N T L p side e o left (hc p (xk side)) + w64 (xCo N T L p side e o left + xFe N T L p side e o left))) = M2 at R2 b1
  have F2 : Fr23 M1 M2 := by rw [← eM2]; exact Fr23_u
  have R3 := R2.cell (j := hc p (1 - xk side)) (by unfold hc; omega) (w64 (x0 N T L p side e o left (hc p (1 - xk side)) + w64 (-xGo N T L p side e o left)))
  have b2 : g_X12_morePool p (w32 (3 - side)) (w64 (-xGo N T L p side e o left)) M2 = some ((), uL M2 23 (hc p (1 - xk side)) (w64 (x0 N T L p side e o left (hc p (1 - xk side)) + w64 (-xGo N T L p side e o left)))) := by
    rw [w32_id (by omega) (by omega), R_morePool hp (by omega) (by omega), show 22 + 23 * p + (3 - side).toNat = hc p (1 - xk side) by unfold hc xk; omega, R2.2.2.1 _ (by unfold hc; omega), ud_ne (by unfold hc; omega)]
  generalize eM3 : uL M2 23 (hc p (1 - xk side)) (w64 (x0 N T L p side e o left (hc p (1 - xk side)) + w64 (-xGo N T L p side e o left))) = M3 at R3 b2
  have F3 : Fr23 M2 M3 := by rw [← eM3]; exact Fr23_u
  have F : Fr23 M M3 := (F1.trans F2).trans F3
  have c29 : zL M3 20 29 = left := by rw [(F 20 (by omega) 29).2.1]; exact hleft
  have c30 : zL M3 20 30 = zL M 20 30 := (F 20 (by omega) 30).2.1
  have c31 : zL M3 20 31 = zL M 20 31 := (F 20 (by omega) 31).2.1
  have c32 : zL M3 20 32 = zL M 20 32 := (F 20 (by omega) 32).2.1
  have c33 : zI M3 20 33 = zI M 20 33 := (F 20 (by omega) 33).1
  -- the sums, and the root
  have hs1 : g_X12_steps_332 p side e o (xA N L p side e) (xF N T L p side e o left) (xRt N T L p side e o left) (xGo N T L p side e o left) (xCo N T L p side e o left) (xFe N T L p side e o left) M = g_X12_steps_422 p side e (xA N L p side e) (xF N T L p side e o left) (xRt N T L p side e o left) (left - xLe N T L p side e o left) left (uL (uL (uL M3 20 30 (w64 (zL M 20 30 + w64 (xCo N T L p side e o left + xFe N T L p side e o left)))) 20 31 (w64 (zL M 20 31 + xGo N T L p side e o left))) 20 32 (w64 (zL M 20 32 + xFe N T L p side e o left))) := by
    unfold g_X12_steps_332 g_X12_steps_402
    rw [a1]
    simp only [bindS]
    rw [b1]
    simp only [bindS]
    rw [b2]
    simp only [bindS]
    have u1 : ∀ v, zL (uL M3 20 30 v) 20 31 = zL M 20 31 := fun v => by rw [zL_uL, if_neg (by omega)]; exact c31
    have u2 : ∀ v w, zL (uL (uL M3 20 30 v) 20 31 w) 20 32 = zL M 20 32 := fun v w => by rw [zL_uL, if_neg (by omega), zL_uL, if_neg (by omega)]; exact c32
    have u3 : ∀ v w u, zL (uL (uL (uL M3 20 30 v) 20 31 w) 20 32 u) 20 29 = left := fun v w u => by rw [zL_uL, if_neg (by omega), zL_uL, if_neg (by omega), zL_uL, if_neg (by omega)]; exact c29
    rw [c30, u1, u2, u3]
    rcases ho with rfl | rfl
    · rw [if_pos rfl] at eLe
      rw [if_pos rfl, w64_id (x := xCo N T L p side e 0 left + xFe N T L p side e 0 left) (by omega) (by omega), show xCo N T L p side e 0 left + xFe N T L p side e 0 left = left - xLe N T L p side e 0 left by omega]
    · rw [if_neg (by omega)] at eLe
      rw [if_neg (by omega), show left - xLe N T L p side e 1 left = xGo N T L p side e 1 left by omega]
  rw [hs1]
  generalize eM4 : uL (uL (uL M3 20 30 (w64 (zL M 20 30 + w64 (xCo N T L p side e o left + xFe N T L p side e o left)))) 20 31 (w64 (zL M 20 31 + xGo N T L p side e o left))) 20 32 (w64 (zL M 20 32 + xFe N T L p side e o left)) = M4
  have R4 : RepR M4 (ud (ud (x0 N T L p side e o left) (hc p (xk side)) (w64 (x0 N T L p side e o left (hc p (xk side)) + w64 (xCo N T L p side e o left + xFe N T L p side e o left)))) (hc p (1 - xk side)) (w64 (x0 N T L p side e o left (hc p (1 - xk side)) + w64 (-xGo N T L p side e o left)))) T (xL1 N T L p side e o left) th pe po := by rw [← eM4]; exact R3
  have R5 := (R4.scL 29 (xLe N T L p side e o left)).cell (j := 22 + 23 * p) (by omega) (xRt N T L p side e o left)
  have R5' : RepR (uL (uL M4 20 29 (xLe N T L p side e o left)) 23 (22 + 23 * p) (xRt N T L p side e o left)) (x1 N T L p side e o left) T (xL1 N T L p side e o left) th pe po := R5
  have K4 : KON M4 := by rw [← eM4]; exact (((K.f23 F).scL (by omega) _).scL (by omega) _).scL (by omega) _
  have s0 : g_X12_setPool p 0 (xRt N T L p side e o left) (uL M4 20 29 (w64 (left - (left - xLe N T L p side e o left)))) = some ((), uL (uL M4 20 29 (xLe N T L p side e o left)) 23 (22 + 23 * p) (xRt N T L p side e o left)) := by
    rw [show left - (left - xLe N T L p side e o left) = xLe N T L p side e o left by omega, w64_id (by omega) (by omega), R_setPool hp (by omega) (by omega)]
    rfl
  have z4 : ∀ k, zL M4 20 k = if k = 32 then w64 (zL M 20 32 + xFe N T L p side e o left) else if k = 31 then w64 (zL M 20 31 + xGo N T L p side e o left) else if k = 30 then w64 (zL M 20 30 + w64 (xCo N T L p side e o left + xFe N T L p side e o left)) else zL M 20 k := by
    intro k
    rw [← eM4, zL_uL, zL_uL, zL_uL, (F 20 (by omega) k).2.1]
    simp only [true_and]
  have i4 : ∀ k, zI M4 20 k = zI M 20 k := by
    intro k
    rw [← eM4]
    exact (F 20 (by omega) k).1
  have f4 : ∀ x, x ≠ 20 → x ≠ 23 → sameH M M4 x := by
    intro x x1 x2
    rw [← eM4]
    exact (((F x x2).trans (sameH_uL x1)).trans (sameH_uL x1)).trans (sameH_uL x1)
  generalize eM5 : uL (uL M4 20 29 (xLe N T L p side e o left)) 23 (22 + 23 * p) (xRt N T L p side e o left) = M5 at *
  have K5 : KON M5 := by rw [← eM5]; exact (K4.scL (by omega) _).f23 Fr23_u
  have z5 : ∀ k, zL M5 20 k = if k = 29 then xLe N T L p side e o left else zL M4 20 k := by
    intro k
    rw [← eM5, zL_uL, if_neg (by omega), zL_uL]
    simp only [true_and]
  have i5 : ∀ k, zI M5 20 k = zI M 20 k := by
    intro k
    rw [← eM5]
    exact i4 k
  have f5 : ∀ x, x ≠ 20 → x ≠ 23 → sameH M M5 x := by
    intro x x1 x2
    rw [← eM5]
    exact ((f4 x x1 x2).trans (sameH_uL x1)).trans (sameH_uL x2)
  have hz1 : x1 N T L p side e o left (22 + 23 * p + 1) = xz N p := x1_at (by unfold hc; omega) (by unfold hc; omega) (by omega) (by unfold hoC; omega)
  have hx1 : x1 N T L p side e o left 1 = N 1 := x1_at (by unfold hc; omega) (by unfold hc; omega) (by omega) (by unfold hoC; omega)
  have fin : ∀ M' : MZ, (∀ k, zL M' 20 k = zL M5 20 k) → zL M' 20 29 = xLe N T L p side e o left ∧ zL M' 20 30 = w64 (zL M 20 30 + w64 (xCo N T L p side e o left + xFe N T L p side e o left)) ∧ zL M' 20 31 = w64 (zL M 20 31 + xGo N T L p side e o left) ∧ zL M' 20 32 = w64 (zL M 20 32 + xFe N T L p side e o left) := by
    intro M' hM
    refine ⟨?_, ?_, ?_, ?_⟩
    · rw [hM, z5, if_pos rfl]
    · rw [hM, z5, if_neg (by omega), z4, if_neg (by omega), if_neg (by omega), if_pos rfl]
    · rw [hM, z5, if_neg (by omega), z4, if_neg (by omega), if_pos rfl]
    · rw [hM, z5, if_neg (by omega), z4, if_pos rfl]
  have fin2 : ∀ M' : MZ, (∀ k, zL M' 20 k = zL M5 20 k) → ∀ k, k < 29 ∨ 32 < k → zL M' 20 k = zL M 20 k := by
    intro M' hM k hk
    rw [hM, z5, if_neg (by omega), z4, if_neg (by omega), if_neg (by omega), if_neg (by omega)]
  unfold g_X12_steps_422
  rw [s0]
  simp only [bindS]
  by_cases hre : xRe N T L p side e o left = true
  · have eF : xF N T L p side e o left = 1 := if_pos hre
    rw [eF, if_neg (by omega)]
    by_cases ce : xA N L p side e = e
    · have eE : xE N T L p side e o left = true := by unfold xE; rw [hre, ce]; simp
      have eC : xC N T L p side e o left = false := by unfold xC; rw [hre, ce]; simp
      have eZ : xZ N T L p side e o left = if side = 0 then e else e - 1 := by unfold xZ; rw [if_pos hre, if_pos ce]
      have R6 := R5'.cell (j := 22 + 23 * p + 1) (by omega) (xZ N T L p side e o left)
      have e2 : x2 N T L p side e o left = ud (x1 N T L p side e o left) (22 + 23 * p + 1) (xZ N T L p side e o left) := by unfold x2; rw [eC]; rfl
      have eN : xN N T L p side e o left = x2 N T L p side e o left := by unfold xN; rw [eC]; rfl
      have eL : xL N T L p side e o left = xL1 N T L p side e o left := by unfold xL; rw [eC]; rfl
      rw [← e2, ← eN, ← eL] at R6
      have hM : ∀ k, zL (uL M5 23 (22 + 23 * p + 1) (xZ N T L p side e o left)) 20 k = zL M5 20 k := fun k => by rw [zL_uL, if_neg (by omega)]
      obtain ⟨g1, g2, g3, g4⟩ := fin _ hM
      refine ⟨uL M5 23 (22 + 23 * p + 1) (xZ N T L p side e o left), ?_, R6, K5.f23 Fr23_u, fun x y1 y2 => (f5 x y1 y2).trans (sameH_uL y2), g1, g2, g3, g4, ?_, fun k _ => i5 k, fin2 _ hM⟩
      · unfold g_X12_steps_484
        rw [if_pos ce, eE, if_pos rfl]
        rcases hs with rfl | rfl
        · rw [if_pos rfl] at eZ
          rw [if_pos rfl, R_setPool hp (by omega) (by omega)]
          simp only [bindS]
          rw [eZ]
          rfl
        · rw [if_neg (by omega)] at eZ
          rw [if_neg (by omega), w32_id (by omega) (by omega), R_setPool hp (by omega) (by omega)]
          simp only [bindS]
          rw [eZ]
          rfl
      · rw [eC, if_neg (by decide)]
        exact i5 33
    · have eE : xE N T L p side e o left = false := by unfold xE; rw [hre]; simp [ce]
      have eC : xC N T L p side e o left = true := by unfold xC; rw [hre]; simp [ce]
      have eZ : xZ N T L p side e o left = if side = 0 then xA N L p side e - 1 else xA N L p side e := by unfold xZ; rw [if_pos hre, if_neg ce]
      have e2 : x2 N T L p side e o left = ud (ud (x1 N T L p side e o left) 1 (w64 (x1 N T L p side e o left 1 + 1))) (22 + 23 * p + 1) (xZ N T L p side e o left) := by unfold x2; rw [eC, if_pos rfl]
      have eN : xN N T L p side e o left = drN T p side (xA N L p side e) (xRt N T L p side e o left) (xZ N T L p side e o left) (x2 N T L p side e o left) (xL1 N T L p side e o left) := by unfold xN; rw [eC, if_pos rfl]
      have eL : xL N T L p side e o left = drL p side (xA N L p side e) (xL1 N T L p side e o left) := by unfold xL; rw [eC, if_pos rfl]
      have R6 := ((R5'.scI (k := 33) (by omega) (w32 (zI M 20 33 + 1))).cell (j := 1) (by omega) (w64 (x1 N T L p side e o left 1 + 1))).cell (j := 22 + 23 * p + 1) (by omega) (xZ N T L p side e o left)
      rw [← e2] at R6
      have K6 : KON (uL (uL (uI M5 20 33 (w32 (zI M 20 33 + 1))) 23 1 (w64 (x1 N T L p side e o left 1 + 1))) 23 (22 + 23 * p + 1) (xZ N T L p side e o left)) := ((K5.scI 33 _).f23 Fr23_u).f23 Fr23_u
      have z6 : ∀ k, zL (uL (uL (uI M5 20 33 (w32 (zI M 20 33 + 1))) 23 1 (w64 (x1 N T L p side e o left 1 + 1))) 23 (22 + 23 * p + 1) (xZ N T L p side e o left)) 20 k = zL M5 20 k := fun k => by rw [zL_uL, if_neg (by omega), zL_uL, if_neg (by omega), zL_uI]
      have i6 : ∀ k, zI (uL (uL (uI M5 20 33 (w32 (zI M 20 33 + 1))) 23 1 (w64 (x1 N T L p side e o left 1 + 1))) 23 (22 + 23 * p + 1) (xZ N T L p side e o left)) 20 k = if k = 33 then w32 (zI M 20 33 + 1) else zI M 20 k := fun k => by
        rw [zI_uL, zI_uL, zI_uI, i5 k]
        simp only [true_and]
      have f6 : ∀ x, x ≠ 20 → x ≠ 23 → sameH M (uL (uL (uI M5 20 33 (w32 (zI M 20 33 + 1))) 23 1 (w64 (x1 N T L p side e o left 1 + 1))) 23 (22 + 23 * p + 1) (xZ N T L p side e o left)) x := fun x y1 y2 => (((f5 x y1 y2).trans (sameH_uI y1)).trans (sameH_uL y2)).trans (sameH_uL y2)
      have st : ∀ v : Int, v = xZ N T L p side e o left → g_X12_steps_527 p side (xA N L p side e) v 1 p (uL (uI M5 20 33 (w32 (zI M5 20 33 + 1))) 23 1 (w64 (zL (uI M5 20 33 (w32 (zI M5 20 33 + 1))) 23 1 + 1))) = ((g_X12_drops p side (xA N L p side e) (uL (uL (uI M5 20 33 (w32 (zI M 20 33 + 1))) 23 1 (w64 (x1 N T L p side e o left 1 + 1))) 23 (22 + 23 * p + 1) (xZ N T L p side e o left))).bind fun q535 => (some (0, q535.2))) := by
        intro v hv
        subst hv
        unfold g_X12_steps_527
        rw [R_setPool hp (by omega) (by omega)]
        simp only [bindS]
        rw [i5 33, zL_uI, R5'.2.2.1 1 (by omega)]
        rfl
      generalize uL (uL (uI M5 20 33 (w32 (zI M 20 33 + 1))) 23 1 (w64 (x1 N T L p side e o left 1 + 1))) 23 (22 + 23 * p + 1) (xZ N T L p side e o left) = M6 at *
      obtain ⟨M7, d1, R7, F7⟩ := R_drops R6 K6 W2 hp hq side (xA N L p side e)
      rw [x2_rz.1, x2_rz.2, ← eN, ← eL] at R7
      have hM : ∀ k, zL M7 20 k = zL M5 20 k := fun k => by rw [(F7 20 (by omega) k).2.1, z6]
      obtain ⟨g1, g2, g3, g4⟩ := fin _ hM
      refine ⟨M7, ?_, R7, K6.f23 F7, fun x y1 y2 => (f6 x y1 y2).trans (F7 x y2), g1, g2, g3, g4, ?_, fun k hk3 => ?_, fin2 _ hM⟩
      · rw [if_neg ce, eE, show (if false = true then (1 : Int) else 0) = 0 from rfl]
        rcases hs with rfl | rfl
        · rw [if_pos rfl] at eZ
          rw [if_pos rfl, w32_id (x := xA N L p 0 e - 1) (by omega) (by omega), st _ eZ.symm, d1]
          simp only [bindS]
        · rw [if_neg (by omega)] at eZ
          rw [if_neg (by omega), st _ eZ.symm, d1]
          simp only [bindS]
      · rw [eC, if_pos rfl, (F7 20 (by omega) 33).1, i6, if_pos rfl]
      · rw [(F7 20 (by omega) k).1, i6, if_neg hk3]
  · have hre2 : xRe N T L p side e o left = false := by simpa using hre
    have eF : xF N T L p side e o left = 0 := if_neg hre
    have eE : xE N T L p side e o left = false := by unfold xE; rw [hre2]; rfl
    have eC : xC N T L p side e o left = false := by unfold xC; rw [hre2]; rfl
    have eZ : xZ N T L p side e o left = zBe side (xz N p) (xA N L p side e) (xRt N T L p side e o left) := by unfold xZ; rw [if_neg hre]
    have R6 := R5'.cell (j := 22 + 23 * p + 1) (by omega) (xZ N T L p side e o left)
    have e2 : x2 N T L p side e o left = ud (x1 N T L p side e o left) (22 + 23 * p + 1) (xZ N T L p side e o left) := by unfold x2; rw [eC]; rfl
    have eN : xN N T L p side e o left = x2 N T L p side e o left := by unfold xN; rw [eC]; rfl
    have eL : xL N T L p side e o left = xL1 N T L p side e o left := by unfold xL; rw [eC]; rfl
    rw [← e2, ← eN, ← eL] at R6
    have hM : ∀ k, zL (uL M5 23 (22 + 23 * p + 1) (xZ N T L p side e o left)) 20 k = zL M5 20 k := fun k => by rw [zL_uL, if_neg (by omega)]
    obtain ⟨g1, g2, g3, g4⟩ := fin _ hM
    refine ⟨uL M5 23 (22 + 23 * p + 1) (xZ N T L p side e o left), ?_, R6, K5.f23 Fr23_u, fun x y1 y2 => (f5 x y1 y2).trans (sameH_uL y2), g1, g2, g3, g4, ?_, fun k _ => i5 k, fin2 _ hM⟩
    · have hb := R_zoneBy R5' hp (by rw [hz1]; exact hrz.1) (xRt N T L p side e o left) hs hA
      rw [hz1, ← eZ] at hb
      rw [eF, if_pos rfl, eE, if_neg (by decide), R_zoneOf K5]
      simp only [bindS]
      rw [hb]
      simp only [bindS]
      rw [R_setPool hp (by omega) (by omega)]
      simp only [bindS]
      rfl
    · rw [eC, if_neg (by decide)]
      exact i5 33
end XU
