/-! one step done, the developers' half -/
section RL2
variable {M : MZ} {b : Nat} {kk : Bool} {T : Nat → Int} {L : List (Nat → Int)} {th pe po : Int} {Nc Ns : Nat → Int}
theorem Pd_mv {p k : Nat} {paid gave cr : Int} (h : Pd (dlt p k paid gave cr) Nc Ns) (hk : k < 2) (a g r' z' : Int) (C : Bool) (X : Nat → Int) (hX : X = ud (ud (ud Ns (hc p k) (w64 (Ns (hc p k) + w64 a))) (hc p (1 - k)) (w64 (Ns (hc p (1 - k)) + w64 (-g)))) (22 + 23 * p) r') : Pd (dlt p k (w64 (paid + w64 a)) (w64 (gave + g)) (if C then w32 (cr + 1) else cr)) (ud (ud Nc (22 + 23 * p) r') (22 + 23 * p + 1) z') (ud (if C then ud X 1 (w64 (X 1 + 1)) else X) (22 + 23 * p + 1) z') := by
  have hh : hc p k = 24 + 23 * p + k := by unfold hc; omega
  have hh1 : hc p (1 - k) = 25 + 23 * p - k := by unfold hc; omega
  have X1 : X 1 = Ns 1 := by rw [hX, ud_ne (by omega), ud_ne (by omega), ud_ne (by omega)]
  have Xr : X (22 + 23 * p) = r' := by rw [hX]; exact ud_at _ _ _
  have Xk : X (hc p k) = w64 (Ns (hc p k) + w64 a) := by rw [hX, ud_ne (by omega), ud_ne (by omega)]; exact ud_at _ _ _
  have Xj : X (hc p (1 - k)) = w64 (Ns (hc p (1 - k)) + w64 (-g)) := by rw [hX, ud_ne (by omega)]; exact ud_at _ _ _
  have Xo : ∀ j, j ≠ 22 + 23 * p → j ≠ hc p k → j ≠ hc p (1 - k) → X j = Ns j := fun j h1 h2 h3 => by rw [hX, ud_ne h1, ud_ne h3, ud_ne h2]
  have Y1 : ∀ j, j ≠ 1 → (if C then ud X 1 (w64 (X 1 + 1)) else X) j = X j := fun j hj => by
    split
    · exact ud_ne hj
    · rfl
  have Y2 : (if C then ud X 1 (w64 (X 1 + 1)) else X) 1 = if C then w64 (Ns 1 + 1) else Ns 1 := by
    split
    · rw [ud_at, X1]
    · exact X1
  refine ⟨fun j => ?_, fun j hj => ?_⟩
  · have h0 := h.1 j
    unfold dlt at h0 ⊢
    by_cases c1 : j = 22 + 23 * p + 1
    · subst c1
      rw [ud_at, ud_at, if_neg (by omega), if_neg (by omega), if_neg (by omega)]
      omega
    · rw [ud_ne c1, ud_ne c1]
      by_cases c2 : j = 22 + 23 * p
      · subst c2
        rw [Y1 _ (by omega), Xr, ud_at, if_neg (by omega), if_neg (by omega), if_neg (by omega)]
        omega
      · rw [ud_ne c2]
        by_cases c3 : j = hc p k
        · subst c3
          rw [Y1 _ (by omega), Xk, if_pos rfl, if_neg (by omega), if_neg (by omega)]
          rw [if_pos rfl, if_neg (by omega), if_neg (by omega)] at h0
          have a1 := w64_d a
          have a2 := w64_d (Ns (hc p k) + w64 a)
          have a3 := w64_d (paid + w64 a)
          omega
        · by_cases c4 : j = hc p (1 - k)
          · subst c4
            rw [Y1 _ (by omega), Xj, if_neg c3, if_pos rfl, if_neg (by omega)]
            rw [if_neg c3, if_pos rfl, if_neg (by omega)] at h0
            have a1 := w64_d (-g)
            have a2 := w64_d (Ns (hc p (1 - k)) + w64 (-g))
            have a3 := w64_d (gave + g)
            omega
          · by_cases c5 : j = 1
            · subst c5
              rw [Y2, if_neg c3, if_neg c4, if_pos rfl]
              rw [if_neg c3, if_neg c4, if_pos rfl] at h0
              cases C
              · exact h0
              · have a2 := w64_d (Ns 1 + 1)
                have a3 := w32_d (cr + 1)
                rw [if_pos rfl, if_pos rfl]
                omega
            · rw [Y1 _ c5, Xo _ c2 c3 c4, if_neg c3, if_neg c4, if_neg c5]
              rw [if_neg c3, if_neg c4, if_neg c5] at h0
              exact h0
  · have h0 := h.2 j hj
    by_cases c1 : j = 22 + 23 * p + 1
    · subst c1
      rw [ud_at, ud_at]
    · rw [ud_ne c1, ud_ne c1]
      have c5 : j ≠ 1 := fun q => fix_1 (q ▸ hj)
      rw [Y1 _ c5]
      by_cases c2 : j = 22 + 23 * p
      · subst c2
        rw [Xr, ud_at]
      · have c3 : j ≠ hc p k := fun q => fix_hc hk (q ▸ hj)
        have c4 : j ≠ hc p (1 - k) := fun q => fix_hc (by omega) (q ▸ hj)
        rw [ud_ne c2, Xo _ c2 c3 c4, h0]
/-- the drop behind a step -/
def dropO (M : MZ) : Option (Unit × MZ) := if zI M 4 7 = -1 then some ((), M) else if kd (zR M 4 0) = (1, 9) then g_X2_dropAt (zR M 4 0) (zI M 4 2) (zI M 4 3) (zI M 4 7) M else none
theorem K_step_real (hb : bOK b) {s : SW} (R : Rep kk M b Nc T s.2.1 th pe po) {p : Nat} {side e o : Int} {ae : Bool} (h : Pd (dlt p (xk side) s.2.2.2.1 s.2.2.2.2.1 s.2.2.2.2.2.2) Nc s.1) (W : WF s.1 T s.2.1 th pe po) (hS : TP M b p side 1 ae (toP p s)) (hpb : Pbg p po side e o) (ha : Pae p side e ae s) (hn : ¬ (s.2.2.1 ≤ 0 ∨ ae = true)) : ∃ M1 M2 Nc', stepO o e M = some ((), M1) ∧ zI M1 4 4 = 1 ∧ dropO M1 = some ((), M2) ∧ Rep kk M2 b Nc' T (swS T p side e o s).2.1 th pe po ∧ Pd (dlt p (xk side) (swS T p side e o s).2.2.2.1 (swS T p side e o s).2.2.2.2.1 (swS T p side e o s).2.2.2.2.2.2) Nc' (swS T p side e o s).1 ∧ TP M2 b p side 1 (xE s.1 T s.2.1 p side e o s.2.2.1) (toP p (swS T p side e o s)) ∧ (∀ x, x ≠ 4 → ¬ (b ≤ x ∧ x < b + 65) → sameH M M2 x) := by
  have h12 := R.2.2.2.2.2.2
  have hg := Pgo_of (T := T) hpb ha hn
  have hT : ∀ p : Nat, p < 5 → (p : Int) < po → Told T th p := fun p hp hq => (W.2.1 p hp hq).1
  have hL : Lok pe po s.2.1 := W.2.2
  have hae : ae = false := by
    cases ae
    · rfl
    · exact absurd (Or.inr rfl) hn
  obtain ⟨hP, hA, hA0, hA1, hrz⟩ := hg.pst W h12
  obtain ⟨wN, wr, wz, wl⟩ := xN_WF W h12 hg
  have w2 := x2_WF W h12 hg
  have hq : Qgo p po side e o (xr s.1 p) (xz s.1 p) s.2.2.1 := ⟨hpb.1, hpb.2.1, hpb.2.2.1, hpb.2.2.2.1, hpb.2.2.2.2, hg.2.2.2.2.2.1, hg.2.2.2.2.2.2, hrz⟩
  have hrt := sRt_r hP
  have hfe := sFe_nn hP
  have hfl := fee_l hP
  obtain ⟨hk, hk2⟩ := xk_r hpb.2.2.1
  have hb4 : ¬ (b ≤ 4 ∧ 4 < b + 65) := by rcases hb with rfl | rfl <;> omega
  obtain ⟨hTS, t12, t13, t9, t6⟩ := hS
  have hTS' := hTS
  obtain ⟨s0, s1, s2, s3, s4, s5, s8, s10, s11⟩ := hTS'
  generalize eMA : uL (uL (uI M 4 5 (xRt s.1 T s.2.1 p side e o s.2.2.1)) 4 11 (w64 (s.2.2.2.2.1 + xGo s.1 T s.2.1 p side e o s.2.2.1))) 4 10 (xLe s.1 T s.2.1 p side e o s.2.2.1) = MA
  have hst : stepO o e M = ((g_X10_takeIn (xCo s.1 T s.2.1 p side e o s.2.2.1) (xFe s.1 T s.2.1 p side e o s.2.2.1) MA).bind fun q => ((g_X10_arrive (aim s.2.1 p side (xz s.1 p) e) (if aim s.2.1 p side (xz s.1 p) e = e then 1 else 0) (yF T s.2.1 p side e o (xr s.1 p) (xz s.1 p) s.2.2.1) q.2).bind fun q2 => (some ((), q2.2)))) := by
    unfold stepO
    rw [← eMA]
    rcases hpb.2.2.2.1 with rfl | rfl
    · rw [if_pos rfl]
      exact K_pourA hb R hT hL hTS hq
    · rw [if_neg (by omega)]
      exact K_drainA hb R hT hL hTS hq
  have iA : ∀ k, zI MA 4 k = if k = 5 then xRt s.1 T s.2.1 p side e o s.2.2.1 else zI M 4 k := fun k => by
    rw [← eMA, zI_uL, zI_uL, zI_uI]; simp only [true_and]
  have lA : ∀ k, zL MA 4 k = if k = 10 then xLe s.1 T s.2.1 p side e o s.2.2.1 else if k = 11 then w64 (s.2.2.2.2.1 + xGo s.1 T s.2.1 p side e o s.2.2.1) else zL M 4 k := fun k => by
    rw [← eMA, zL_uL, zL_uL, zL_uI]; simp only [true_and]
  have rA : ∀ k, zR MA 4 k = zR M 4 k := fun k => by rw [← eMA]; rfl
  have fA : ∀ x, x ≠ 4 → sameH M MA x := fun x hx => by
    rw [← eMA]; exact ((sameH_uI hx).trans (sameH_uL hx)).trans (sameH_uL hx)
  have RA := R.not4 hb fA
  obtain ⟨MB, NB, k1, RB, PB, iB, rB, lB, fB⟩ := K_takeIn1 hb RA h W hpb.1 hpb.2.1 (side := side) (co := xCo s.1 T s.2.1 p side e o s.2.2.1) (fe := xFe s.1 T s.2.1 p side e o s.2.2.1) (paid := s.2.2.2.1) (fees := s.2.2.2.2.2.1) hpb.2.2.1 hfe.1 hfl (by rw [rA]; exact s0) (by rw [iA, if_neg (by omega)]; exact s2) (by rw [iA, if_neg (by omega)]; exact s3) (by rw [iA, if_neg (by omega)]; exact s4) (by rw [lA, if_neg (by omega), if_neg (by omega)]; exact t12) (by rw [lA, if_neg (by omega), if_neg (by omega)]; exact t13)
  have hr : 38554 ≤ xRt s.1 T s.2.1 p side e o s.2.2.1 := by
    have b1 := rtz_r (t := xz s.1 p) (by have := hrz.1; omega) (by have := hrz.1; omega)
    have b3 := rtz_r (t := xA s.1 s.2.1 p side e) (by omega) (by omega)
    rcases hpb.2.2.1 with q | q
    · have := hrt.1 q
      show 38554 ≤ sRt _ _ _ _ _ _ _
      omega
    · have := hrt.2 q
      show 38554 ≤ sRt _ _ _ _ _ _ _
      have := hrz.2
      omega
  obtain ⟨MC, c1, c2, c3, c4, c5, c6, c7, c8, c9⟩ := K_arriveA (M := MB) (T := T) (L := s.2.1) (cr := s.2.2.2.2.2.2) hq hA (fun q => (hA1 q).1) hr (fun q => (hrt.2 q).1) (by rw [iB, iA, if_neg (by omega)]; exact s3) (by rw [iB, iA, if_pos rfl]; rfl) (by rw [iB, iA, if_neg (by omega)]; exact s8) (by rw [iB, iA, if_neg (by omega)]; exact t9)
  have RC := RB.not4 hb c2
  have C4 : zI MC 4 4 = 1 := by rw [c3 4 (by omega) (by omega) (by omega) (by omega), iB, iA, if_neg (by omega)]; exact s4
  have C5 : zI MC 4 5 = xRt s.1 T s.2.1 p side e o s.2.2.1 := by rw [c3 5 (by omega) (by omega) (by omega) (by omega), iB, iA, if_pos rfl]
  have C1 : zR MC 4 1 = b + 2 + 2 + 5 * p := by rw [c5, rB, rA]; exact s1
  have C0 : zR MC 4 0 = b := by rw [c5, rB, rA]; exact s0
  have C2 : zI MC 4 2 = p := by rw [c3 2 (by omega) (by omega) (by omega) (by omega), iB, iA, if_neg (by omega)]; exact s2
  have C3 : zI MC 4 3 = side := by rw [c3 3 (by omega) (by omega) (by omega) (by omega), iB, iA, if_neg (by omega)]; exact s3
  have hp := hpb.1
  have hne : ¬ (4 : Nat) = b + 2 + 2 + 5 * p := by rcases hb with rfl | rfl <;> omega
  have zr := xZ_rz W h12 hg
  have hzr := zr.1
  have bz := hzr.1
  have br : xRt s.1 T s.2.1 p side e o s.2.2.1 ≤ 259374 := by
    have b2 := rtz_r (t := xZ s.1 T s.2.1 p side e o s.2.2.1 + 1) (by omega) (by omega)
    have := hzr.2
    omega
  generalize eMD : uI (uI MC (b + 2 + 2 + 5 * p) 5 (xRt s.1 T s.2.1 p side e o s.2.2.1)) (b + 2 + 2 + 5 * p) 6 (xZ s.1 T s.2.1 p side e o s.2.2.1) = MD
  have har : g_X10_arrive_88 MC = some ((), MD) := by
    unfold g_X10_arrive_88 g_X10_arrive_117
    have q1 : ∀ v, zR (uI MC (b + 2 + 2 + 5 * p) 5 v) 4 1 = b + 2 + 2 + 5 * p := fun v => C1
    have q2 : ∀ v, zI (uI MC (b + 2 + 2 + 5 * p) 5 v) 4 8 = xZ s.1 T s.2.1 p side e o s.2.2.1 := fun v => by
      rw [zI_uI, if_neg (by omega), c6]; rfl
    rw [C4, if_neg (show ¬ (1 : Int) = 0 by omega), C1, if_pos (kdp hb hp), q1, if_pos (kdp hb hp), q2, C5, eMD]
  have RD : Rep kk MD b (ud (ud NB (22 + 23 * p + 0) (xRt s.1 T s.2.1 p side e o s.2.2.1)) (22 + 23 * p + 1) (xZ s.1 T s.2.1 p side e o s.2.2.1)) T (xL1 s.1 T s.2.1 p side e o s.2.2.1) th pe po := by
    rw [← eMD]
    exact (RC.pool (w := 0) hp (by omega) (w32_id (by omega) (by omega)).symm).pool (w := 1) hp (by omega) (w32_id (by omega) (by omega)).symm
  have PD : Pd (dlt p (xk side) (w64 (s.2.2.2.1 + w64 (xCo s.1 T s.2.1 p side e o s.2.2.1 + xFe s.1 T s.2.1 p side e o s.2.2.1))) (w64 (s.2.2.2.2.1 + xGo s.1 T s.2.1 p side e o s.2.2.1)) (if xC s.1 T s.2.1 p side e o s.2.2.1 then w32 (s.2.2.2.2.2.2 + 1) else s.2.2.2.2.2.2)) (ud (ud NB (22 + 23 * p) (xRt s.1 T s.2.1 p side e o s.2.2.1)) (22 + 23 * p + 1) (xZ s.1 T s.2.1 p side e o s.2.2.1)) (x2 s.1 T s.2.1 p side e o s.2.2.1) := Pd_mv PB hk2 _ _ _ _ _ (x1 s.1 T s.2.1 p side e o s.2.2.1) rfl
  have sD : ∀ x, x ≠ b + 2 + 2 + 5 * p → sameH MC MD x := fun x hx => by rw [← eMD]; exact (sameH_uI hx).trans (sameH_uI hx)
  have d4 := sD 4 hne
  have D7 : zI MD 4 7 = if xC s.1 T s.2.1 p side e o s.2.2.1 then xA s.1 s.2.1 p side e else -1 := by rw [(d4 7).1, c8]; rfl
  have FD : ∀ x, x ≠ 4 → ¬ (b ≤ x ∧ x < b + 65) → sameH M MD x := fun x h1 h2 => (((fA x h1).trans (fB x h1 h2)).trans (c2 x h1)).trans (sD x (by omega))
  have hstep : stepO o e M = some ((), MD) := by
    rw [hst, k1]
    simp only [bindS]
    rw [c1, har]
    simp only [bindS]
  have TD : TP MD b p side 1 (xE s.1 T s.2.1 p side e o s.2.2.1) (toP p (swS T p side e o s)) := by
    refine ⟨⟨?_, ?_, ?_, ?_, ?_, ?_, ?_, ?_, ?_⟩, ?_, ?_, ?_, ?_⟩
    · rw [(d4 0).2.2]; exact C0
    · rw [(d4 1).2.2]; exact C1
    · rw [(d4 2).1]; exact C2
    · rw [(d4 3).1]; exact C3
    · rw [(d4 4).1]; exact C4
    · rw [(d4 5).1, C5]; exact wr.symm
    · rw [(d4 8).1, c6]; exact wz.symm
    · rw [(d4 10).2.1, c4, lB, if_neg (by omega), if_neg (by omega), lA, if_pos rfl]; rfl
    · rw [(d4 11).2.1, c4, lB, if_neg (by omega), if_neg (by omega), lA, if_neg (by omega), if_pos rfl]; rfl
    · rw [(d4 12).2.1, c4, lB, if_neg (by omega), if_pos rfl]; rfl
    · rw [(d4 13).2.1, c4, lB, if_pos rfl]; rfl
    · rw [(d4 9).1, c7]; rfl
    · have b6 : zI MB 4 6 = 0 := by rw [iB, iA, if_neg (by omega), t6, hae]; rfl
      rw [(d4 6).1, c9, b6]; rfl
  by_cases hC : xC s.1 T s.2.1 p side e o s.2.2.1 = true
  · have WD := WF.pd PD w2
    obtain ⟨ME, a1, a2, a3⟩ := K_dropAt hb RD WD hp hpb.2.1 side (xA s.1 s.2.1 p side e)
    have s4' := a3 4 hb4
    have e2 : ud (ud NB (22 + 23 * p + 0) (xRt s.1 T s.2.1 p side e o s.2.2.1)) (22 + 23 * p + 1) (xZ s.1 T s.2.1 p side e o s.2.2.1) (22 + 23 * p) = xRt s.1 T s.2.1 p side e o s.2.2.1 := by rw [ud_ne (by omega)]; exact ud_at _ _ _
    rw [e2, ud_at] at a2
    refine ⟨MD, ME, drN T p side (xA s.1 s.2.1 p side e) (xRt s.1 T s.2.1 p side e o s.2.2.1) (xZ s.1 T s.2.1 p side e o s.2.2.1) (ud (ud NB (22 + 23 * p + 0) (xRt s.1 T s.2.1 p side e o s.2.2.1)) (22 + 23 * p + 1) (xZ s.1 T s.2.1 p side e o s.2.2.1)) (xL1 s.1 T s.2.1 p side e o s.2.2.1), hstep, by rw [(d4 4).1]; exact C4, ?_, ?_, ?_, ?_, fun x h1 h2 => (FD x h1 h2).trans (a3 x h2)⟩
    · unfold dropO
      rw [D7, if_pos hC, if_neg (by omega), (d4 0).2.2, C0, if_pos (kdb hb), (d4 2).1, C2, (d4 3).1, C3]
      exact a1
    · have e1 : (swS T p side e o s).2.1 = drL p side (xA s.1 s.2.1 p side e) (xL1 s.1 T s.2.1 p side e o s.2.2.1) := by
        show xL s.1 T s.2.1 p side e o s.2.2.1 = _
        unfold xL
        rw [if_pos hC]
      rw [e1]
      exact a2
    · have e1 : (swS T p side e o s).1 = drN T p side (xA s.1 s.2.1 p side e) (xRt s.1 T s.2.1 p side e o s.2.2.1) (xZ s.1 T s.2.1 p side e o s.2.2.1) (x2 s.1 T s.2.1 p side e o s.2.2.1) (xL1 s.1 T s.2.1 p side e o s.2.2.1) := by
        show xN s.1 T s.2.1 p side e o s.2.2.1 = _
        unfold xN
        rw [if_pos hC]
      rw [e1]
      exact PD.drN (W.t2 hp hpb.2.1) _ _ _ _ w2.2.2 (by have := W.1.r; omega)
    · obtain ⟨⟨u0, u1, u2, u3, u4, u5, u8, u10, u11⟩, u12, u13, u9, u6⟩ := TD
      exact ⟨⟨by rw [(s4' 0).2.2]; exact u0, by rw [(s4' 1).2.2]; exact u1, by rw [(s4' 2).1]; exact u2, by rw [(s4' 3).1]; exact u3, by rw [(s4' 4).1]; exact u4, by rw [(s4' 5).1]; exact u5, by rw [(s4' 8).1]; exact u8, by rw [(s4' 10).2.1]; exact u10, by rw [(s4' 11).2.1]; exact u11⟩, by rw [(s4' 12).2.1]; exact u12, by rw [(s4' 13).2.1]; exact u13, by rw [(s4' 9).1]; exact u9, by rw [(s4' 6).1]; exact u6⟩
  · refine ⟨MD, MD, ud (ud NB (22 + 23 * p + 0) (xRt s.1 T s.2.1 p side e o s.2.2.1)) (22 + 23 * p + 1) (xZ s.1 T s.2.1 p side e o s.2.2.1), hstep, by rw [(d4 4).1]; exact C4, ?_, ?_, ?_, TD, FD⟩
    · unfold dropO
      rw [D7, if_neg hC, if_pos rfl]
    · have e1 : (swS T p side e o s).2.1 = xL1 s.1 T s.2.1 p side e o s.2.2.1 := by
        show xL s.1 T s.2.1 p side e o s.2.2.1 = _
        unfold xL
        rw [if_neg hC]
      rw [e1]
      exact RD
    · have e1 : (swS T p side e o s).1 = x2 s.1 T s.2.1 p side e o s.2.2.1 := by
        show xN s.1 T s.2.1 p side e o s.2.2.1 = _
        unfold xN
        rw [if_neg hC]
      rw [e1]
      exact PD
end RL2
