/-! one step of draining; what comes in; arriving -/
section KT
variable {M : MZ} {b : Nat} {kk : Bool} {N T : Nat → Int} {L : List (Nat → Int)} {th pe po : Int}
theorem K_drainA (hb : bOK b) (R : Rep kk M b N T L th pe po) (hT : ∀ p : Nat, p < 5 → (p : Int) < po → Told T th p) (hL : Lok pe po L) {p : Nat} {side re e r z left gave : Int} (hS : TS M b p side re r z left gave) (h : Qgo p po side e 1 r z left) : g_X10_drainStep e M = ((g_X10_takeIn (yCo T L p side e 1 r z left) (yFe T L p side e 1 r z left) (uL (uL (uI M 4 5 (yRt T L p side e 1 r z left)) 4 11 (w64 (gave + yGo T L p side e 1 r z left))) 4 10 (yLe T L p side e 1 r z left))).bind fun q => ((g_X10_arrive (aim L p side z e) (if aim L p side z e = e then 1 else 0) (yF T L p side e 1 r z left) q.2).bind fun q2 => (some ((), q2.2)))) := by
  obtain ⟨s0, s1, s2, s3, s4, s5, s8, s10, s11⟩ := hS
  obtain ⟨hP, hA, hA0, hA1⟩ := h.pst hT hL R.2.2.2.2.2.2
  have hm := sMost_r hP
  have hrt := sRt_r hP
  have hco := sCo_nn hP
  have hgo := sGo_nn hP
  have hfe := sFe_nn hP
  have hle := sLe_r hP
  obtain ⟨hp, hq, hs, -, he, hge, hlef, hrz⟩ := h
  have hz := hrz.1
  have ka := K_aim hb R hL (p := (p : Int)) (side := side) (z := z) (e := e) (by omega) (by omega) hs s0 s2 s3 s8
  have kf : zI M (b + 2 + 2 + 5 * p) 2 = T (5 * p + 2) := K_told R hp hq (by omega)
  have hk := kdp hb hp
  have eN : sN 1 (T (5 * p + 2)) left = left := if_neg (by omega)
  generalize eg : aim L p side z e = g at *
  have kr : ∀ M : MZ, g_X0_rootAt g M = some (rtz g, M) := fun M => K_rootAt hA.1 hA.2 M
  have hP' := hP
  obtain ⟨_, _, hl, hr, ha, h0, h1, hf, _⟩ := hP'
  have e1 : g_X10_drainStep e M = (if left < sMost 1 side (dep L p z) r (rtz g) then g_X10_drainStep_76 e g (rtz g) r (dep L p z) (sMost 1 side (dep L p z) r (rtz g)) 0 M else g_X10_drainStep_76 e g (rtz g) r (dep L p z) (sMost 1 side (dep L p z) r (rtz g)) 1 M) := by
    unfold g_X10_drainStep g_X10_drainStep_17 g_X10_drainStep_46
    rw [ka]
    simp only [bindS]
    rw [kr]
    simp only [bindS]
    rw [s0, if_pos (kdb hb), s2, s8, K_liq hb R hL]
    simp only [bindS]
    rw [s3, s5]
    rcases hs with rfl | rfl
    · rw [if_pos rfl, K_between' (a := rtz g) (b := r) ⟨hl, by omega, h0 rfl, by omega⟩]
      simp only [bindS]
      rw [s10]
      rfl
    · rw [if_neg (by omega), K_between (a := r) (b := rtz g) ⟨hl, by omega, h1 rfl, by omega⟩]
      simp only [bindS]
      rw [s10]
      rfl
  have e2 : (if left < sMost 1 side (dep L p z) r (rtz g) then g_X10_drainStep_76 e g (rtz g) r (dep L p z) (sMost 1 side (dep L p z) r (rtz g)) 0 M else g_X10_drainStep_76 e g (rtz g) r (dep L p z) (sMost 1 side (dep L p z) r (rtz g)) 1 M) = g_X10_drainStep_122 e g r (dep L p z) (yF T L p side e 1 r z left) (yGo T L p side e 1 r z left) (yRt T L p side e 1 r z left) M := by
    unfold yF yGo yRt yRe
    rw [eg]
    unfold g_X10_drainStep_76 g_X10_drainStep_92
    by_cases hre : sRe 1 side (dep L p z) r (rtz g) (T (5 * p + 2)) left = true
    · have hge' : sMost 1 side (dep L p z) r (rtz g) ≤ sN 1 (T (5 * p + 2)) left := of_decide_eq_true hre
      rw [eN] at hge'
      have er : sRt 1 side (dep L p z) r (rtz g) (T (5 * p + 2)) left = rtz g := by unfold sRt; rw [if_pos hre]
      have ec : sGo 1 side (dep L p z) r (rtz g) (T (5 * p + 2)) left = sMost 1 side (dep L p z) r (rtz g) := by unfold sGo; rw [if_neg (by omega), if_pos hre]
      rw [if_neg (by omega), if_neg (by omega), if_neg (by omega), if_pos hre, er, ec]
    · have hlt : ¬ sMost 1 side (dep L p z) r (rtz g) ≤ sN 1 (T (5 * p + 2)) left := fun q => hre (decide_eq_true q)
      rw [eN] at hlt
      have hre2 : sRe 1 side (dep L p z) r (rtz g) (T (5 * p + 2)) left = false := by simpa using hre
      have ec : sGo 1 side (dep L p z) r (rtz g) (T (5 * p + 2)) left = left := by unfold sGo; rw [if_neg (by omega), if_neg hre, eN]
      rw [if_pos (by omega), if_pos rfl, if_pos rfl, s3, s5, s10, K_rbo hP hre2]
      simp only [bindS]
      rw [if_neg hre, ec]
  have hrt' : (side = 0 → rtz g ≤ yRt T L p side e 1 r z left ∧ yRt T L p side e 1 r z left ≤ r) ∧ (side = 1 → r ≤ yRt T L p side e 1 r z left ∧ yRt T L p side e 1 r z left ≤ rtz g) := by
    unfold yRt; rw [eg]; exact hrt
  have eCo : yCo T L p side e 1 r z left = if side = 0 then fst' (dep L p z) (yRt T L p side e 1 r z left) r 1 else snd' (dep L p z) r (yRt T L p side e 1 r z left) 1 := by
    unfold yCo yRt sCo; rw [if_neg (by omega)]
  have eLe : yLe T L p side e 1 r z left = left - yGo T L p side e 1 r z left := by
    unfold yLe yGo sLe; rw [if_neg (by omega)]
  have eFe : yFe T L p side e 1 r z left = cdiv (yCo T L p side e 1 r z left * T (5 * p + 2)) (1000 - T (5 * p + 2)) := by
    unfold yFe yCo sFe; rw [if_neg (fun q => by omega)]
  have hco' : 0 ≤ yCo T L p side e 1 r z left ∧ yCo T L p side e 1 r z left ≤ 10000000000 := by unfold yCo; rw [eg]; exact hco
  have hgo' : 0 ≤ yGo T L p side e 1 r z left ∧ yGo T L p side e 1 r z left ≤ 10000000000 := by unfold yGo; rw [eg]; exact hgo
  rw [e1, e2]
  generalize yRt T L p side e 1 r z left = r' at *
  generalize yCo T L p side e 1 r z left = co at *
  generalize yFe T L p side e 1 r z left = fe at *
  generalize yGo T L p side e 1 r z left = go at *
  have u11 : zL (uI M 4 5 r') 4 11 = gave := s11
  have u10 : ∀ v, zL (uL (uI M 4 5 r') 4 11 v) 4 10 = left := fun v => by rw [zL_uL, if_neg (by omega)]; exact s10
  have m := mulr (a := co) (b := T (5 * p + 2)) (A := 10000000000) (B := 99) hco'.1 hco'.2 hf.1 hf.2
  unfold g_X10_drainStep_122 g_X10_drainStep_147 g_X10_drainStep_159 g_X10_drainStep_219
  rw [u11, u10, w64_id (x := left - go) (by omega) (by omega), ← eLe]
  generalize eMM : uL (uL (uI M 4 5 r') 4 11 (w64 (gave + go))) 4 10 (yLe T L p side e 1 r z left) = MM
  have v3 : zI MM 4 3 = side := by rw [← eMM, zI_uL, zI_uL, zI_uI, if_neg (by omega)]; exact s3
  have v5 : zI MM 4 5 = r' := by rw [← eMM, zI_uL, zI_uL]; exact zI_at _ _ _ _
  have v1 : zR MM 4 1 = b + 2 + 2 + 5 * p := by rw [← eMM]; exact s1
  have vf : zI MM (b + 2 + 2 + 5 * p) 2 = T (5 * p + 2) := by
    rw [← eMM, zI_uL, zI_uL, zI_uI, if_neg (by rcases hb with rfl | rfl <;> omega)]; exact kf
  rw [v3, v5]
  rcases hs with rfl | rfl
  · have q := hrt'.1 rfl
    rw [if_pos rfl] at eCo
    rw [if_pos rfl, K_between' (a := r') (b := r) ⟨hl, by omega, q.2, by omega⟩]
    simp only [bindS]
    rw [if_neg (show ¬ (1 : Int) = 0 by omega), ← eCo, v1, if_pos hk, vf, w64_id (by omega) (by omega), w32_id (by omega) (by omega), K_up m.1 (by omega) (by omega) (by omega)]
    simp only [bindS]
    rw [← eFe]
    congr 1
    funext q
    split <;> rfl
  · have q := hrt'.2 rfl
    rw [if_neg (by omega)] at eCo
    rw [if_neg (by omega), K_between (a := r) (b := r') ⟨hl, by omega, q.1, by omega⟩]
    simp only [bindS]
    rw [if_pos trivial, ← eCo, v1, if_pos hk, vf, w64_id (by omega) (by omega), w32_id (by omega) (by omega), K_up m.1 (by omega) (by omega) (by omega)]
    simp only [bindS]
    rw [← eFe]
    congr 1
    funext q
    split <;> rfl
/-- what comes in, on paper -/
theorem K_takeIn0 {M : MZ} {co fe paid fees : Int} (m4 : zI M 4 4 = 0) (m12 : zL M 4 12 = paid) (m13 : zL M 4 13 = fees) : g_X10_takeIn co fe M = some ((), uL (uL M 4 12 (w64 (paid + w64 (co + fe)))) 4 13 (w64 (fees + fe))) := by
  unfold g_X10_takeIn g_X10_takeIn_51
  have e1 : zL (uL M 4 12 (w64 (zL M 4 12 + w64 (co + fe)))) 4 13 = fees := by rw [zL_uL, if_neg (by omega)]; exact m13
  rw [e1, m12, show zI (uL (uL M 4 12 (w64 (paid + w64 (co + fe)))) 4 13 (w64 (fees + fe))) 4 4 = zI M 4 4 from rfl, m4, if_pos rfl]
/-- zone, crossed tick, crossed, at its end, behind a step -/
def yZ (T : Nat → Int) (L : List (Nat → Int)) (p : Nat) (side e o r z left : Int) : Int := if yRe T L p side e o r z left then (if aim L p side z e = e then (if side = 0 then e else e - 1) else (if side = 0 then aim L p side z e - 1 else aim L p side z e)) else zBe side z (aim L p side z e) (yRt T L p side e o r z left)
def yC (T : Nat → Int) (L : List (Nat → Int)) (p : Nat) (side e o r z left : Int) : Bool := yRe T L p side e o r z left && !decide (aim L p side z e = e)
def yE (T : Nat → Int) (L : List (Nat → Int)) (p : Nat) (side e o r z left : Int) : Bool := yRe T L p side e o r z left && decide (aim L p side z e = e)
/-- the trade's own fields behind arriving -/
def arM (M : MZ) (side z' cr ct : Int) (ae : Bool) : MZ → Prop := fun M' => (∀ x, x ≠ 4 → sameH M M' x) ∧ (∀ k, k ≠ 6 → k ≠ 7 → k ≠ 8 → k ≠ 9 → zI M' 4 k = zI M 4 k) ∧ (∀ k, zL M' 4 k = zL M 4 k) ∧ (∀ k, zR M' 4 k = zR M 4 k) ∧ zI M' 4 8 = z' ∧ zI M' 4 9 = cr ∧ zI M' 4 7 = ct ∧ zI M' 4 6 = (if ae then 1 else zI M 4 6)
theorem K_arriveA {M : MZ} {p : Nat} {side e o r z left cr : Int} (h : Qgo p po side e o r z left) (hA : 0 ≤ aim L p side z e ∧ aim L p side z e ≤ 40) (hA1 : side = 1 → z < aim L p side z e) (hr : 38554 ≤ yRt T L p side e o r z left) (hr1 : side = 1 → r ≤ yRt T L p side e o r z left) (m3 : zI M 4 3 = side) (m5 : zI M 4 5 = yRt T L p side e o r z left) (m8 : zI M 4 8 = z) (m9 : zI M 4 9 = cr) : ∃ M', g_X10_arrive (aim L p side z e) (if aim L p side z e = e then 1 else 0) (yF T L p side e o r z left) M = g_X10_arrive_88 M' ∧ arM M side (yZ T L p side e o r z left) (if yC T L p side e o r z left then w32 (cr + 1) else cr) (if yC T L p side e o r z left then aim L p side z e else -1) (yE T L p side e o r z left) M' := by
  obtain ⟨hp, hq, hs, ho, he, hge, hle, hrz⟩ := h
  have hz := hrz.1
  have q7 : zI (uI M 4 7 (-1)) 4 3 = side := by rw [zI_uI, if_neg (by omega)]; exact m3
  unfold g_X10_arrive g_X10_arrive_39 g_X10_arrive_33 g_X10_arrive_73
  by_cases hre : yRe T L p side e o r z left = true
  · have eF : yF T L p side e o r z left = 1 := if_pos hre
    by_cases ce : aim L p side z e = e
    · have eE : yE T L p side e o r z left = true := by unfold yE; rw [hre, ce]; simp
      have eC : yC T L p side e o r z left = false := by unfold yC; rw [hre, ce]; simp
      have eZ : yZ T L p side e o r z left = if side = 0 then e else e - 1 := by unfold yZ; rw [if_pos hre, if_pos ce]
      have q6 : zI (uI (uI M 4 7 (-1)) 4 6 1) 4 3 = side := by rw [zI_uI, if_neg (by omega)]; exact q7
      refine ⟨uI (uI (uI M 4 7 (-1)) 4 6 1) 4 8 (yZ T L p side e o r z left), ?_, ?_⟩
      · rw [eF, if_neg (by omega), if_pos ce, if_neg (by omega), q6, eZ, ce]
        rcases hs with rfl | rfl
        · rw [if_pos rfl, if_pos rfl]
        · rw [if_neg (by omega), if_neg (by omega), w32_id (by omega) (by omega)]
      · rw [eC, eE]
        refine ⟨fun x hx => ((sameH_uI hx).trans (sameH_uI hx)).trans (sameH_uI hx), fun k k6 k7 k8 k9 => ?_, fun k => rfl, fun k => rfl, zI_at _ _ _ _, ?_, ?_, ?_⟩
        · rw [zI_uI, if_neg (by omega), zI_uI, if_neg (by omega), zI_uI, if_neg (by omega)]
        · rw [zI_uI, if_neg (by omega), zI_uI, if_neg (by omega), zI_uI, if_neg (by omega)]; exact m9
        · rw [zI_uI, if_neg (by omega), zI_uI, if_neg (by omega)]; exact zI_at _ _ _ _
        · rw [zI_uI, if_neg (by omega)]; exact zI_at _ _ _ _
    · have eE : yE T L p side e o r z left = false := by unfold yE; rw [hre]; simp [ce]
      have eC : yC T L p side e o r z left = true := by unfold yC; rw [hre]; simp [ce]
      have eZ : yZ T L p side e o r z left = if side = 0 then aim L p side z e - 1 else aim L p side z e := by unfold yZ; rw [if_pos hre, if_neg ce]
      have q9 : zI (uI (uI M 4 7 (-1)) 4 7 (aim L p side z e)) 4 9 = cr := by rw [zI_uI, if_neg (by omega), zI_uI, if_neg (by omega)]; exact m9
      have q3 : ∀ v, zI (uI (uI (uI M 4 7 (-1)) 4 7 (aim L p side z e)) 4 9 v) 4 3 = side := fun v => by rw [zI_uI, if_neg (by omega), zI_uI, if_neg (by omega)]; exact q7
      refine ⟨uI (uI (uI (uI M 4 7 (-1)) 4 7 (aim L p side z e)) 4 9 (w32 (cr + 1))) 4 8 (yZ T L p side e o r z left), ?_, ?_⟩
      · rw [eF, if_neg (by omega), if_neg ce, if_pos rfl, if_neg (by omega), q9, q3, eZ]
        rcases hs with rfl | rfl
        · rw [if_pos rfl, if_pos rfl, w32_id (x := aim L p 0 z e - 1) (by omega) (by omega)]
        · rw [if_neg (by omega), if_neg (by omega)]
      · rw [eC, eE]
        refine ⟨fun x hx => (((sameH_uI hx).trans (sameH_uI hx)).trans (sameH_uI hx)).trans (sameH_uI hx), fun k k6 k7 k8 k9 => ?_, fun k => rfl, fun k => rfl, zI_at _ _ _ _, ?_, ?_, ?_⟩
        · rw [zI_uI, if_neg (by omega), zI_uI, if_neg (by omega), zI_uI, if_neg (by omega), zI_uI, if_neg (by omega)]
        · rw [zI_uI, if_neg (by omega)]; exact zI_at _ _ _ _
        · rw [zI_uI, if_neg (by omega), zI_uI, if_neg (by omega)]; exact zI_at _ _ _ _
        · rw [zI_uI, if_neg (by omega), zI_uI, if_neg (by omega), zI_uI, if_neg (by omega), zI_uI, if_neg (by omega)]; rfl
  · have hre2 : yRe T L p side e o r z left = false := by simpa using hre
    have eF : yF T L p side e o r z left = 0 := if_neg hre
    have eE : yE T L p side e o r z left = false := by unfold yE; rw [hre2]; rfl
    have eC : yC T L p side e o r z left = false := by unfold yC; rw [hre2]; rfl
    have eZ : yZ T L p side e o r z left = zBe side z (aim L p side z e) (yRt T L p side e o r z left) := by unfold yZ; rw [if_neg hre]
    have q5 : zI (uI M 4 7 (-1)) 4 5 = yRt T L p side e o r z left := by rw [zI_uI, if_neg (by omega)]; exact m5
    have q8 : zI (uI M 4 7 (-1)) 4 8 = z := by rw [zI_uI, if_neg (by omega)]; exact m8
    refine ⟨uI (uI M 4 7 (-1)) 4 8 (yZ T L p side e o r z left), ?_, ?_⟩
    · rw [eF, if_pos rfl, if_pos rfl, K_zoneShort hs hr (by omega) hA (fun q => ⟨hA1 q, by have := hr1 q; have := hrz.2; omega⟩) q7 q5 q8]
      simp only [bindS]
      rw [eZ]
    · rw [eC, eE]
      refine ⟨fun x hx => (sameH_uI hx).trans (sameH_uI hx), fun k k6 k7 k8 k9 => ?_, fun k => rfl, fun k => rfl, zI_at _ _ _ _, ?_, ?_, ?_⟩
      · rw [zI_uI, if_neg (by omega), zI_uI, if_neg (by omega)]
      · rw [zI_uI, if_neg (by omega), zI_uI, if_neg (by omega)]; exact m9
      · rw [zI_uI, if_neg (by omega)]; exact zI_at _ _ _ _
      · rw [zI_uI, if_neg (by omega), zI_uI, if_neg (by omega)]; rfl
end KT
