/-! one step, the developers' half: root and zone lie in the trade -/
def yA (L : List (Nat → Int)) (p : Nat) (side e z : Int) : Int := aim L p side z e
def yl (L : List (Nat → Int)) (p : Nat) (z : Int) : Int := dep L p z
def yRe (T : Nat → Int) (L : List (Nat → Int)) (p : Nat) (side e o r z left : Int) : Bool := sRe o side (dep L p z) r (rtz (aim L p side z e)) (T (5 * p + 2)) left
def yRt (T : Nat → Int) (L : List (Nat → Int)) (p : Nat) (side e o r z left : Int) : Int := sRt o side (dep L p z) r (rtz (aim L p side z e)) (T (5 * p + 2)) left
def yGo (T : Nat → Int) (L : List (Nat → Int)) (p : Nat) (side e o r z left : Int) : Int := sGo o side (dep L p z) r (rtz (aim L p side z e)) (T (5 * p + 2)) left
def yCo (T : Nat → Int) (L : List (Nat → Int)) (p : Nat) (side e o r z left : Int) : Int := sCo o side (dep L p z) r (rtz (aim L p side z e)) (T (5 * p + 2)) left
def yFe (T : Nat → Int) (L : List (Nat → Int)) (p : Nat) (side e o r z left : Int) : Int := sFe o side (dep L p z) r (rtz (aim L p side z e)) (T (5 * p + 2)) left
def yLe (T : Nat → Int) (L : List (Nat → Int)) (p : Nat) (side e o r z left : Int) : Int := sLe o side (dep L p z) r (rtz (aim L p side z e)) (T (5 * p + 2)) left
def yF (T : Nat → Int) (L : List (Nat → Int)) (p : Nat) (side e o r z left : Int) : Int := if yRe T L p side e o r z left then 1 else 0
/-- the trade's fields: market, pool, its number, side, in earnest; root, zone, left, gave -/
def TS (M : MZ) (b p : Nat) (side re r z left gave : Int) : Prop := zR M 4 0 = b ∧ zR M 4 1 = b + 2 + 2 + 5 * p ∧ zI M 4 2 = p ∧ zI M 4 3 = side ∧ zI M 4 4 = re ∧ zI M 4 5 = r ∧ zI M 4 8 = z ∧ zL M 4 10 = left ∧ zL M 4 11 = gave
section KS
variable {M : MZ} {b : Nat} {kk : Bool} {N T : Nat → Int} {L : List (Nat → Int)} {th pe po : Int}
/-- what every step needs -/
def Qgo (p : Nat) (po side e o r z left : Int) : Prop := p < 5 ∧ (p : Int) < po ∧ (side = 0 ∨ side = 1) ∧ (o = 0 ∨ o = 1) ∧ (0 ≤ e ∧ e ≤ 40) ∧ (if side = 0 then e ≤ z else z < e) ∧ (0 < left ∧ left ≤ 10000000000) ∧ Rzz r z
theorem Qgo.pst (hT : ∀ p : Nat, p < 5 → (p : Int) < po → Told T th p) (hL : Lok pe po L) (h12 : L.length ≤ 12) {p : Nat} {side e o r z left : Int} (h : Qgo p po side e o r z left) : Pst o side (dep L p z) r (rtz (aim L p side z e)) (T (5 * p + 2)) left ∧ (0 ≤ aim L p side z e ∧ aim L p side z e ≤ 40) ∧ (side = 0 → e ≤ aim L p side z e ∧ aim L p side z e ≤ z) ∧ (side = 1 → z < aim L p side z e ∧ aim L p side z e ≤ e) := by
  obtain ⟨hp, hq, hs, ho, he, hge, hle, hrz⟩ := h
  have ht := hT p hp hq
  obtain ⟨z0, r1, r2⟩ := hrz
  have ha := aim_r hL (p : Int) (side := side) (z := z) (e := e) z0 hs he hge
  have hA : (0 ≤ aim L p side z e ∧ aim L p side z e ≤ 40) := by
    rcases hs with q | q
    · have := ha.1 q; omega
    · have := ha.2 q; omega
  have b1 := rtz_r (t := z) (by omega) (by omega)
  have b2 := rtz_r (t := z + 1) (by omega) (by omega)
  have b3 := rtz_r (t := aim L p side z e) (by omega) (by omega)
  have hd := dep_r hL h12 (p : Int) z
  refine ⟨⟨ho, hs, by omega, by omega, by omega, fun q => ?_, fun q => ?_, by have := ht.2.2.2.1; omega, hle⟩, hA, ha.1, ha.2⟩
  · have h1 := (ha.1 q).2
    have := rtz_le (a := aim L p side z e) (b := z) (by omega) h1 (by omega)
    omega
  · have h1 := (ha.2 q).1
    have := rtz_le (a := z + 1) (b := aim L p side z e) (by omega) (by omega) (by omega)
    omega
theorem K_rbi {side l r a f left : Int} (hP : Pst 0 side l r a f left) (hre : sRe 0 side l r a f left = false) (M : MZ) : g_X0_rootBehindIn side l r (sN 0 f left) M = some (sRt 0 side l r a f left, M) := by
  have hl1 := (sRe_l hP hre).1
  have hn := sN_r hP
  have hrt := sRt_r hP
  have eR : sRt 0 side l r a f left = (if side = 0 then cdiv (l * 100000 * r) (l * 100000 + sN 0 f left * r) else r + sN 0 f left * 100000 / l) := by
    unfold sRt
    rw [hre, if_neg (by decide), if_pos rfl]
  rw [eR] at hrt ⊢
  obtain ⟨_, hs, hl, hr, ha, h0, h1, hf, hle⟩ := hP
  generalize sN 0 f left = n at *
  have m1 := mulr (a := l * 100000) (b := r) (A := 1200000000000) (B := 259374) (by omega) (by omega) (by omega) (by omega)
  have m2 := mulr (a := n) (b := r) (A := 10000000000) (B := 259374) (by omega) (by omega) (by omega) (by omega)
  unfold g_X0_rootBehindIn g_X0_rootBehindIn_20
  rw [if_pos (by omega)]
  rcases hs with rfl | rfl
  · have q := hrt.1 rfl
    rw [if_pos rfl] at q
    rw [if_pos rfl, if_pos rfl, w64_id (x := l * 100000) (by omega) (by omega), w64_id (x := l * 100000 * r) (by omega) (by omega), w64_id (x := n * r) (by omega) (by omega), w64_id (x := l * 100000 + n * r) (by omega) (by omega), K_up m1.1 (by omega) (by omega) (by omega)]
    simp only [bindS]
    rw [w32_id (by omega) (by omega)]
  · have q := hrt.2 rfl
    rw [if_neg (by omega)] at q
    have d := fdiv_r (x := n * 100000) (y := l) (by omega) (by omega)
    rw [if_neg (by omega), if_neg (by omega), if_neg (by omega), w64_id (x := n * 100000) (by omega) (by omega), Int.tdiv_eq_ediv_of_nonneg (by omega), w64_id (x := n * 100000 / l) (by omega) (by omega), w64_id (x := r + n * 100000 / l) (by omega) (by omega), w32_id (by omega) (by omega)]
theorem K_rbo {side l r a f left : Int} (hP : Pst 1 side l r a f left) (hre : sRe 1 side l r a f left = false) (M : MZ) : g_X0_rootBehindOut side l r left M = some (sRt 1 side l r a f left, M) := by
  obtain ⟨hl1, hlt⟩ := sRe_l hP hre
  have hrt := sRt_r hP
  have eN : sN 1 f left = left := if_neg (by omega)
  have eR : sRt 1 side l r a f left = (if side = 0 then r - cdiv (left * 100000) l else cdiv (l * 100000 * r) (l * 100000 - left * r)) := by
    unfold sRt
    rw [hre, if_neg (by decide), if_neg (by omega), eN]
  rw [eR] at hrt ⊢
  rw [eN] at hlt
  obtain ⟨_, hs, hl, hr, ha, h0, h1, hf, hle⟩ := hP
  have m1 := mulr (a := l * 100000) (b := r) (A := 1200000000000) (B := 259374) (by omega) (by omega) (by omega) (by omega)
  have m2 := mulr (a := left) (b := r) (A := 10000000000) (B := 259374) (by omega) (by omega) (by omega) (by omega)
  unfold g_X0_rootBehindOut g_X0_rootBehindOut_25
  rcases hs with rfl | rfl
  · have q := hrt.1 rfl
    rw [if_pos rfl] at q
    have d := cdiv_r (x := left * 100000) (y := l) (by omega) (by omega)
    rw [if_pos rfl, if_pos rfl, w64_id (x := left * 100000) (by omega) (by omega), K_up (by omega) (by omega) (by omega) (by omega)]
    simp only [bindS]
    rw [w64_id (by omega) (by omega), w32_id (by omega) (by omega)]
  · have q := hrt.2 rfl
    rw [if_neg (by omega)] at q
    have hpos : 0 < l * 100000 - left * r := by
      have hL : Lab l r a := ⟨hl, by omega, h1 rfl, by omega⟩
      have k : left + 1 ≤ l * 100000 * (a - r) / (r * a) := by
        have e : sMost 1 1 l r a = l * 100000 * (a - r) / (r * a) := rfl
        rw [← e]; omega
      rw [Int.le_ediv_iff_mul_le hL.p.1] at k
      have q1 : left * r * a < l * 100000 * a := by
        have := hL.p.1
        have m3 := Int.mul_nonneg (show 0 ≤ l * 100000 by omega) (show 0 ≤ r by omega)
        grind
      have := Int.lt_of_mul_lt_mul_right q1 (by omega)
      omega
    rw [if_neg (by omega), if_neg (by omega), w64_id (x := l * 100000) (by omega) (by omega), w64_id (x := l * 100000 * r) (by omega) (by omega), w64_id (x := left * r) (by omega) (by omega), w64_id (x := l * 100000 - left * r) (by omega) (by omega), K_up m1.1 (by omega) hpos (by omega)]
    simp only [bindS]
    rw [w32_id (by omega) (by omega)]
/-- a step of pouring, up to what comes in -/
theorem K_pourA (hb : bOK b) (R : Rep kk M b N T L th pe po) (hT : ∀ p : Nat, p < 5 → (p : Int) < po → Told T th p) (hL : Lok pe po L) {p : Nat} {side re e r z left gave : Int} (hS : TS M b p side re r z left gave) (h : Qgo p po side e 0 r z left) : g_X10_pourStep e M = ((g_X10_takeIn (yCo T L p side e 0 r z left) (yFe T L p side e 0 r z left) (uL (uL (uI M 4 5 (yRt T L p side e 0 r z left)) 4 11 (w64 (gave + yGo T L p side e 0 r z left))) 4 10 (yLe T L p side e 0 r z left))).bind fun q => ((g_X10_arrive (aim L p side z e) (if aim L p side z e = e then 1 else 0) (yF T L p side e 0 r z left) q.2).bind fun q2 => (some ((), q2.2)))) := by
  obtain ⟨s0, s1, s2, s3, s4, s5, s8, s10, s11⟩ := hS
  obtain ⟨hP, hA, hA0, hA1⟩ := h.pst hT hL R.2.2.2.2.2.2
  have hn := sN_r hP
  have hm := sMost_r hP
  have hrt := sRt_r hP
  have hco := sCo_nn hP
  have hgo := sGo_nn hP
  have hfe := sFe_nn hP
  have hle := sLe_r hP
  obtain ⟨hp, hq, hs, -, he, hge, hlef, hrz⟩ := h
  have hz := hrz.1
  have ka := K_aim hb R hL (p := (p : Int)) (side := side) (z := z) (e := e) (by omega) (by omega) hs s0 s2 s3 s8
  have kf : zI M (b + 2 + 2 + 5 * p) 2 = T (5 * p + 2) := K_told R hp hq (by omega)
  have hk := kdp hb hp
  generalize eg : aim L p side z e = g at *
  have kr : ∀ M : MZ, g_X0_rootAt g M = some (rtz g, M) := fun M => K_rootAt hA.1 hA.2 M
  have hP' := hP
  obtain ⟨_, _, hl, hr, ha, h0, h1, hf, _⟩ := hP'
  have hN : w64 (Int.tdiv (w64 (left * (1000 - T (5 * p + 2)))) 1000) = sN 0 (T (5 * p + 2)) left := by
    have m := mulr (a := left) (b := 1000 - T (5 * p + 2)) (A := 10000000000) (B := 1000) (by omega) (by omega) (by omega) (by omega)
    have d := fdiv_r (x := left * (1000 - T (5 * p + 2))) (y := 1000) m.1 (by omega)
    rw [w64_id (x := left * (1000 - T (5 * p + 2))) (by omega) (by omega), Int.tdiv_eq_ediv_of_nonneg m.1, w64_id (by omega) (by omega)]
    rfl
  have e1 : g_X10_pourStep e M = g_X10_pourStep_88 e g (rtz g) r (1000 - T (5 * p + 2)) (dep L p z) (sMost 0 side (dep L p z) r (rtz g)) (sN 0 (T (5 * p + 2)) left) M := by
    unfold g_X10_pourStep g_X10_pourStep_17 g_X10_pourStep_30 g_X10_pourStep_59
    rw [ka]
    simp only [bindS]
    rw [kr]
    simp only [bindS]
    rw [s1, if_pos hk, s0, if_pos (kdb hb), s2, s8, K_liq hb R hL]
    simp only [bindS]
    rw [s3, s5, kf, w32_id (x := 1000 - T (5 * p + 2)) (by omega) (by omega)]
    rcases hs with rfl | rfl
    · rw [if_pos rfl, K_between' (a := rtz g) (b := r) ⟨hl, by omega, h0 rfl, by omega⟩]
      simp only [bindS]
      rw [s10, hN]
      rfl
    · rw [if_neg (by omega), K_between (a := r) (b := rtz g) ⟨hl, by omega, h1 rfl, by omega⟩]
      simp only [bindS]
      rw [s10, hN]
      rfl
  have e2 : g_X10_pourStep_88 e g (rtz g) r (1000 - T (5 * p + 2)) (dep L p z) (sMost 0 side (dep L p z) r (rtz g)) (sN 0 (T (5 * p + 2)) left) M = g_X10_pourStep_177 e g r (dep L p z) (yF T L p side e 0 r z left) (yCo T L p side e 0 r z left) (yFe T L p side e 0 r z left) (yRt T L p side e 0 r z left) M := by
    unfold yF yCo yFe yRt yRe
    rw [eg]
    unfold g_X10_pourStep_88 g_X10_pourStep_101 g_X10_pourStep_115 g_X10_pourStep_149
    by_cases hre : sRe 0 side (dep L p z) r (rtz g) (T (5 * p + 2)) left = true
    · have hge' : sMost 0 side (dep L p z) r (rtz g) ≤ sN 0 (T (5 * p + 2)) left := of_decide_eq_true hre
      have er : sRt 0 side (dep L p z) r (rtz g) (T (5 * p + 2)) left = rtz g := by unfold sRt; rw [if_pos hre]
      have ec : sCo 0 side (dep L p z) r (rtz g) (T (5 * p + 2)) left = sMost 0 side (dep L p z) r (rtz g) := by unfold sCo; rw [if_pos rfl, if_pos hre]
      have ef : sFe 0 side (dep L p z) r (rtz g) (T (5 * p + 2)) left = cdiv (sMost 0 side (dep L p z) r (rtz g) * T (5 * p + 2)) (1000 - T (5 * p + 2)) := by unfold sFe; rw [if_neg (fun q => q.2 hre), ec]
      have m := mulr (a := sMost 0 side (dep L p z) r (rtz g)) (b := T (5 * p + 2)) (A := 264984001) (B := 99) hm.1 hm.2 hf.1 hf.2
      rw [if_neg (by omega), if_neg (by omega), if_neg (by omega), s1, if_pos hk, kf, w64_id (by omega) (by omega), K_up m.1 (by omega) (by omega) (by omega)]
      simp only [bindS]
      rw [if_neg (by omega), if_pos hre, er, ec, ef]
    · have hlt : ¬ sMost 0 side (dep L p z) r (rtz g) ≤ sN 0 (T (5 * p + 2)) left := fun q => hre (decide_eq_true q)
      have hre2 : sRe 0 side (dep L p z) r (rtz g) (T (5 * p + 2)) left = false := by simpa using hre
      have ec : sCo 0 side (dep L p z) r (rtz g) (T (5 * p + 2)) left = sN 0 (T (5 * p + 2)) left := by unfold sCo; rw [if_pos rfl, if_neg hre]
      have ef : sFe 0 side (dep L p z) r (rtz g) (T (5 * p + 2)) left = left - sN 0 (T (5 * p + 2)) left := by unfold sFe; rw [if_pos ⟨rfl, hre⟩]
      rw [if_pos (by omega), if_pos rfl, if_pos rfl, if_pos rfl, s3, s5, s10, K_rbi hP hre2]
      simp only [bindS]
      rw [if_neg hre, ec, ef, w64_id (by omega) (by omega)]
  have hrt' : (side = 0 → rtz g ≤ yRt T L p side e 0 r z left ∧ yRt T L p side e 0 r z left ≤ r) ∧ (side = 1 → r ≤ yRt T L p side e 0 r z left ∧ yRt T L p side e 0 r z left ≤ rtz g) := by
    unfold yRt; rw [eg]; exact hrt
  have eGo : yGo T L p side e 0 r z left = if side = 0 then snd' (dep L p z) (yRt T L p side e 0 r z left) r 0 else fst' (dep L p z) r (yRt T L p side e 0 r z left) 0 := by
    unfold yGo yRt sGo; rw [if_pos rfl]
  have eLe : yLe T L p side e 0 r z left = left - (yCo T L p side e 0 r z left + yFe T L p side e 0 r z left) := by
    unfold yLe yCo yFe sLe; rw [if_pos rfl]
  have hco' : 0 ≤ yCo T L p side e 0 r z left ∧ yCo T L p side e 0 r z left ≤ 10000000000 := by unfold yCo; rw [eg]; exact hco
  have hfe' : 0 ≤ yFe T L p side e 0 r z left ∧ yFe T L p side e 0 r z left ≤ 10000000000 := by unfold yFe; rw [eg]; exact hfe
  rw [e1, e2]
  generalize yRt T L p side e 0 r z left = r' at *
  generalize yCo T L p side e 0 r z left = co at *
  generalize yFe T L p side e 0 r z left = fe at *
  generalize yGo T L p side e 0 r z left = go at *
  have u3 : zI (uI M 4 5 r') 4 3 = side := by rw [zI_uI, if_neg (by omega)]; exact s3
  have u11 : zL (uI M 4 5 r') 4 11 = gave := s11
  have u5 : zI (uI M 4 5 r') 4 5 = r' := zI_at _ _ _ _
  have u10 : ∀ v, zL (uL (uI M 4 5 r') 4 11 v) 4 10 = left := fun v => by rw [zL_uL, if_neg (by omega)]; exact s10
  unfold g_X10_pourStep_177 g_X10_pourStep_197 g_X10_pourStep_249
  rw [u3, u11, u5]
  rcases hs with rfl | rfl
  · have q := hrt'.1 rfl
    rw [if_pos rfl] at eGo
    rw [if_pos rfl, K_between' (a := r') (b := r) ⟨hl, by omega, q.2, by omega⟩]
    simp only [bindS]
    rw [if_pos trivial, u10, ← eGo, w64_id (x := co + fe) (by omega) (by omega), w64_id (x := left - (co + fe)) (by omega) (by omega), ← eLe]
    congr 1
    funext q
    split <;> rfl
  · have q := hrt'.2 rfl
    rw [if_neg (by omega)] at eGo
    rw [if_neg (by omega), K_between (a := r) (b := r') ⟨hl, by omega, q.1, by omega⟩]
    simp only [bindS]
    rw [if_neg (by omega), u10, ← eGo, w64_id (x := co + fe) (by omega) (by omega), w64_id (x := left - (co + fe)) (by omega) (by omega), ← eLe]
    congr 1
    funext q
    split <;> rfl
end KS
