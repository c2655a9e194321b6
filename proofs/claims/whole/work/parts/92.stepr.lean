/-! one step, the reference's half -/
def xk (side : Int) : Nat := side.toNat
def xz (N : Nat → Int) (p : Nat) : Int := N (22 + 23 * p + 1)
def xr (N : Nat → Int) (p : Nat) : Int := N (22 + 23 * p)
def xl (N : Nat → Int) (L : List (Nat → Int)) (p : Nat) : Int := dep L p (N (22 + 23 * p + 1))
def xA (N : Nat → Int) (L : List (Nat → Int)) (p : Nat) (side e : Int) : Int := aim L p side (N (22 + 23 * p + 1)) e
def xRe (N T : Nat → Int) (L : List (Nat → Int)) (p : Nat) (side e o left : Int) : Bool := sRe o side (xl N L p) (xr N p) (rtz (xA N L p side e)) (T (5 * p + 2)) left
def xRt (N T : Nat → Int) (L : List (Nat → Int)) (p : Nat) (side e o left : Int) : Int := sRt o side (xl N L p) (xr N p) (rtz (xA N L p side e)) (T (5 * p + 2)) left
def xGo (N T : Nat → Int) (L : List (Nat → Int)) (p : Nat) (side e o left : Int) : Int := sGo o side (xl N L p) (xr N p) (rtz (xA N L p side e)) (T (5 * p + 2)) left
def xCo (N T : Nat → Int) (L : List (Nat → Int)) (p : Nat) (side e o left : Int) : Int := sCo o side (xl N L p) (xr N p) (rtz (xA N L p side e)) (T (5 * p + 2)) left
def xFe (N T : Nat → Int) (L : List (Nat → Int)) (p : Nat) (side e o left : Int) : Int := sFe o side (xl N L p) (xr N p) (rtz (xA N L p side e)) (T (5 * p + 2)) left
def xLe (N T : Nat → Int) (L : List (Nat → Int)) (p : Nat) (side e o left : Int) : Int := sLe o side (xl N L p) (xr N p) (rtz (xA N L p side e)) (T (5 * p + 2)) left
/-- is a tick crossed; is it at its end -/
def xC (N T : Nat → Int) (L : List (Nat → Int)) (p : Nat) (side e o left : Int) : Bool := xRe N T L p side e o left && !decide (xA N L p side e = e)
def xE (N T : Nat → Int) (L : List (Nat → Int)) (p : Nat) (side e o left : Int) : Bool := xRe N T L p side e o left && decide (xA N L p side e = e)
def xZ (N T : Nat → Int) (L : List (Nat → Int)) (p : Nat) (side e o left : Int) : Int := if xRe N T L p side e o left then (if xA N L p side e = e then (if side = 0 then e else e - 1) else (if side = 0 then xA N L p side e - 1 else xA N L p side e)) else zBe side (xz N p) (xA N L p side e) (xRt N T L p side e o left)
def x0 (N T : Nat → Int) (L : List (Nat → Int)) (p : Nat) (side e o left : Int) : Nat → Int := shN N T p (xk side) (xFe N T L p side e o left)
def x1 (N T : Nat → Int) (L : List (Nat → Int)) (p : Nat) (side e o left : Int) : Nat → Int := ud (ud (ud (x0 N T L p side e o left) (hc p (xk side)) (w64 (x0 N T L p side e o left (hc p (xk side)) + w64 (xCo N T L p side e o left + xFe N T L p side e o left)))) (hc p (1 - xk side)) (w64 (x0 N T L p side e o left (hc p (1 - xk side)) + w64 (-xGo N T L p side e o left)))) (22 + 23 * p) (xRt N T L p side e o left)
def x2 (N T : Nat → Int) (L : List (Nat → Int)) (p : Nat) (side e o left : Int) : Nat → Int := ud (if xC N T L p side e o left then ud (x1 N T L p side e o left) 1 (w64 (x1 N T L p side e o left 1 + 1)) else x1 N T L p side e o left) (22 + 23 * p + 1) (xZ N T L p side e o left)
def xL1 (N T : Nat → Int) (L : List (Nat → Int)) (p : Nat) (side e o left : Int) : List (Nat → Int) := shR T L p (xz N p) (xk side) (xFe N T L p side e o left)
/-- numbers and row behind a step -/
def xN (N T : Nat → Int) (L : List (Nat → Int)) (p : Nat) (side e o left : Int) : Nat → Int := if xC N T L p side e o left then drN T p side (xA N L p side e) (xRt N T L p side e o left) (xZ N T L p side e o left) (x2 N T L p side e o left) (xL1 N T L p side e o left) else x2 N T L p side e o left
def xL (N T : Nat → Int) (L : List (Nat → Int)) (p : Nat) (side e o left : Int) : List (Nat → Int) := if xC N T L p side e o left then drL p side (xA N L p side e) (xL1 N T L p side e o left) else xL1 N T L p side e o left
theorem RepR.scL {M : MZ} {N T : Nat → Int} {L : List (Nat → Int)} {th pe po : Int} (R : RepR M N T L th pe po) (k : Nat) (v : Int) : RepR (uL M 20 k v) N T L th pe po := R
theorem RepR.scI {M : MZ} {N T : Nat → Int} {L : List (Nat → Int)} {th pe po : Int} (R : RepR M N T L th pe po) {k : Nat} (hk : 3 < k) (v : Int) : RepR (uI M 20 k v) N T L th pe po := by
  obtain ⟨⟨a0, a1, a2⟩, b⟩ := R
  refine ⟨⟨?_, ?_, ?_⟩, b⟩
  · rw [zI_uI, if_neg (by omega)]; exact a0
  · rw [zI_uI, if_neg (by omega)]; exact a1
  · rw [zI_uI, if_neg (by omega)]; exact a2
theorem KON.scL {M : MZ} (K : KON M) {k : Nat} (hk : 24 ≤ k) (v : Int) : KON (uL M 20 k v) := ⟨K.1, fun j a c => by rw [zL_uL, if_neg (by omega)]; exact K.2.1 j a c, K.2.2⟩
theorem KON.scI {M : MZ} (K : KON M) (k : Nat) (v : Int) : KON (uI M 20 k v) := K
section XR
variable {M : MZ} {N T : Nat → Int} {L : List (Nat → Int)} {th pe po : Int}
/-- what every step needs -/
def Pgo (N T : Nat → Int) (L : List (Nat → Int)) (p : Nat) (po side e o left : Int) : Prop := p < 5 ∧ (p : Int) < po ∧ (side = 0 ∨ side = 1) ∧ (o = 0 ∨ o = 1) ∧ (0 ≤ e ∧ e ≤ 40) ∧ (if side = 0 then e ≤ xz N p else xz N p < e) ∧ (0 < left ∧ left ≤ 10000000000)
theorem Pgo.pst (W : WF N T L th pe po) (h12 : L.length ≤ 12) {p : Nat} {side e o left : Int} (h : Pgo N T L p po side e o left) : Pst o side (xl N L p) (xr N p) (rtz (xA N L p side e)) (T (5 * p + 2)) left ∧ (0 ≤ xA N L p side e ∧ xA N L p side e ≤ 40) ∧ (side = 0 → e ≤ xA N L p side e ∧ xA N L p side e ≤ xz N p) ∧ (side = 1 → xz N p < xA N L p side e ∧ xA N L p side e ≤ e) ∧ Rzz (xr N p) (xz N p) := by
  obtain ⟨hp, hq, hs, ho, he, hge, hle⟩ := h
  have ht := (W.2.1 p hp hq).1
  have hrz : Rzz (xr N p) (xz N p) := (W.2.1 p hp hq).2
  have hzz := hrz
  obtain ⟨z0, r1, r2⟩ := hzz
  have ha := aim_r W.2.2 (p : Int) (side := side) (z := xz N p) (e := e) z0 hs he hge
  have hA : (0 ≤ xA N L p side e ∧ xA N L p side e ≤ 40) := by
    rcases hs with q | q
    · have := ha.1 q
      show 0 ≤ aim L p side (xz N p) e ∧ aim L p side (xz N p) e ≤ 40
      omega
    · have := ha.2 q
      show 0 ≤ aim L p side (xz N p) e ∧ aim L p side (xz N p) e ≤ 40
      omega
  have b1 := rtz_r (t := xz N p) (by omega) (by omega)
  have b2 := rtz_r (t := xz N p + 1) (by omega) (by omega)
  have b3 := rtz_r (t := xA N L p side e) (by omega) (by omega)
  have hd := dep_r W.2.2 h12 (p : Int) (xz N p)
  have hd' : 0 ≤ xl N L p ∧ xl N L p ≤ 11999988 := hd
  refine ⟨⟨ho, hs, by omega, by omega, by omega, fun q => ?_, fun q => ?_, by have := ht.2.2.2.1; omega, hle⟩, hA, ha.1, ha.2, hrz⟩
  · have h1 := (ha.1 q).2
    have := rtz_le (a := xA N L p side e) (b := xz N p) (by omega) h1 (by omega)
    omega
  · have h1 := (ha.2 q).1
    have h1' : xz N p < xA N L p side e := h1
    have := rtz_le (a := xz N p + 1) (b := xA N L p side e) (by omega) (by omega) (by omega)
    omega
theorem R_feeUpon (R : RepR M N T L th pe po) {p : Nat} (hp : p < 5) (hf : 0 ≤ T (5 * p + 2) ∧ T (5 * p + 2) ≤ 99) {v : Int} (hv : 0 ≤ v ∧ v ≤ 10000000000) : g_X12_feeUpon p v M = some (cdiv (v * T (5 * p + 2)) (1000 - T (5 * p + 2)), M) := by
  have m := mulr (a := v) (b := T (5 * p + 2)) (A := 10000000000) (B := 99) hv.1 hv.2 hf.1 hf.2
  unfold g_X12_feeUpon
  rw [R_feeOf hp, R.2.1 _ (by omega)]
  simp only [bindS]
  rw [R_feeOf hp, R.2.1 _ (by omega)]
  simp only [bindS]
  rw [w64_id (by omega) (by omega), w32_id (by omega) (by omega), R_up m.1 (by omega) (by omega) (by omega)]
  simp only [bindS]
theorem R_wanted (R : RepR M N T L th pe po) (K : KON M) (W : WF N T L th pe po) {p : Nat} {side e o left : Int} (h : Pgo N T L p po side e o left) : g_X12_wantedTo p side (xA N L p side e) M = some (sMost 0 side (xl N L p) (xr N p) (rtz (xA N L p side e)), M) := by
  obtain ⟨hP, hA, -, -, hrz⟩ := h.pst W R.2.2.2.2.2
  obtain ⟨hp, hq, hs, ho, he, hge, hle⟩ := h
  have o0 : g_X12_ofPool p 0 M = some (xr N p, M) := R_pool R hp (by omega) (by omega)
  have ek : zL M 21 (xA N L p side e).toNat = rtz (xA N L p side e) := K.1 _ (by omega)
  unfold g_X12_wantedTo g_X12_wantedTo_55
  rw [R_zone R hp hrz.1]
  simp only [bindS]
  rw [R_depthOf R W.2.2]
  simp only [bindS]
  obtain ⟨_, _, hl, hr, ha, h0, h1, _⟩ := hP
  have hl' : 0 ≤ dep L p (N (22 + 23 * p + 1)) ∧ dep L p (N (22 + 23 * p + 1)) ≤ 12000000 := hl
  have h41 : 0 ≤ xA N L p side e ∧ xA N L p side e < ((41 : Nat) : Int) := by omega
  simp only [o0, bindS, ek, if_pos h41]
  unfold sMost
  rw [if_pos rfl]
  rcases hs with rfl | rfl
  · rw [if_pos rfl, if_pos rfl, R_first (l := dep L p (N (22 + 23 * p + 1))) ⟨hl', by omega, h0 rfl, by omega⟩]
    rfl
  · rw [if_neg (by omega), if_neg (by omega), R_second (l := dep L p (N (22 + 23 * p + 1))) ⟨hl', by omega, h1 rfl, by omega⟩]
    rfl
theorem R_rootBy (R : RepR M N T L th pe po) (W : WF N T L th pe po) {p : Nat} {side e left : Int} (h : Pgo N T L p po side e 0 left) (hre : xRe N T L p side e 0 left = false) : g_X12_rootBy p side (sN 0 (T (5 * p + 2)) left) M = some (xRt N T L p side e 0 left, M) := by
  obtain ⟨hP, hA, -, -, hrz⟩ := h.pst W R.2.2.2.2.2
  have hl1 := (sRe_l hP hre).1
  have hn := sN_r hP
  have hrt := sRt_r hP
  obtain ⟨hp, hq, hs, ho, he, hge, hle⟩ := h
  have o0 : g_X12_ofPool p 0 M = some (xr N p, M) := R_pool R hp (by omega) (by omega)
  unfold xRt
  unfold xRe at hre
  have eR : sRt 0 side (xl N L p) (xr N p) (rtz (xA N L p side e)) (T (5 * p + 2)) left = (if side = 0 then cdiv (xl N L p * 100000 * xr N p) (xl N L p * 100000 + sN 0 (T (5 * p + 2)) left * xr N p) else xr N p + sN 0 (T (5 * p + 2)) left * 100000 / xl N L p) := by
    unfold sRt
    rw [hre, if_neg (by decide), if_pos rfl]
  rw [eR] at hrt ⊢
  obtain ⟨_, _, hl, hr, ha, h0, h1, hf, _⟩ := hP
  generalize sN 0 (T (5 * p + 2)) left = n at *
  unfold g_X12_rootBy g_X12_rootBy_61
  rw [R_zone R hp hrz.1]
  simp only [bindS]
  rw [R_depthOf R W.2.2, show dep L p (N (22 + 23 * p + 1)) = xl N L p from rfl]
  simp only [bindS]
  rw [o0]
  simp only [bindS]
  generalize xl N L p = l at *
  generalize xr N p = r at *
  have m1 := mulr (a := l * 100000) (b := r) (A := 1200000000000) (B := 259374) (by omega) (by omega) (by omega) (by omega)
  have m2 := mulr (a := n) (b := r) (A := 10000000000) (B := 259374) (by omega) (by omega) (by omega) (by omega)
  rcases hs with rfl | rfl
  · rw [if_pos rfl, if_pos rfl, w64_id (x := l * 100000) (by omega) (by omega), w64_id (x := l * 100000 * r) (by omega) (by omega), w64_id (x := n * r) (by omega) (by omega), w64_id (x := l * 100000 + n * r) (by omega) (by omega), R_up m1.1 (by omega) (by omega) (by omega)]
    simp only [bindS]
  · have q := hrt.2 rfl
    rw [if_neg (by omega)] at q
    have d := fdiv_r (x := n * 100000) (y := l) (by omega) (by omega)
    rw [if_neg (by omega), if_neg (by omega), if_neg (by omega), w64_id (x := n * 100000) (by omega) (by omega), Int.tdiv_eq_ediv_of_nonneg (by omega), w64_id (x := n * 100000 / l) (by omega) (by omega), w64_id (by omega) (by omega)]
theorem R_rootByOut (R : RepR M N T L th pe po) (W : WF N T L th pe po) {p : Nat} {side e left : Int} (h : Pgo N T L p po side e 1 left) (hre : xRe N T L p side e 1 left = false) : g_X12_rootByOut p side left M = some (xRt N T L p side e 1 left, M) := by
  obtain ⟨hP, hA, -, -, hrz⟩ := h.pst W R.2.2.2.2.2
  obtain ⟨hl1, hlt⟩ := sRe_l hP hre
  have hn := sN_r hP
  have hrt := sRt_r hP
  obtain ⟨hp, hq, hs, ho, he, hge, hle⟩ := h
  have o0 : g_X12_ofPool p 0 M = some (xr N p, M) := R_pool R hp (by omega) (by omega)
  have eN : sN 1 (T (5 * p + 2)) left = left := if_neg (by omega)
  unfold xRt
  unfold xRe at hre
  have eR : sRt 1 side (xl N L p) (xr N p) (rtz (xA N L p side e)) (T (5 * p + 2)) left = (if side = 0 then xr N p - cdiv (left * 100000) (xl N L p) else cdiv (xl N L p * 100000 * xr N p) (xl N L p * 100000 - left * xr N p)) := by
    unfold sRt
    rw [hre, if_neg (by decide), if_neg (by omega), eN]
  rw [eR] at hrt ⊢
  obtain ⟨_, _, hl, hr, ha, h0, h1, hf, _⟩ := hP
  rw [eN] at hlt
  unfold g_X12_rootByOut g_X12_rootByOut_63
  rw [R_zone R hp hrz.1]
  simp only [bindS]
  rw [R_depthOf R W.2.2, show dep L p (N (22 + 23 * p + 1)) = xl N L p from rfl]
  simp only [bindS]
  rw [o0]
  simp only [bindS]
  generalize rtz (xA N L p side e) = a at *
  generalize xl N L p = l at *
  generalize xr N p = r at *
  have m1 := mulr (a := l * 100000) (b := r) (A := 1200000000000) (B := 259374) (by omega) (by omega) (by omega) (by omega)
  have m2 := mulr (a := left) (b := r) (A := 10000000000) (B := 259374) (by omega) (by omega) (by omega) (by omega)
  rcases hs with rfl | rfl
  · have q := hrt.1 rfl
    rw [if_pos rfl] at q
    have d := cdiv_r (x := left * 100000) (y := l) (by omega) (by omega)
    rw [if_pos rfl, if_pos rfl, w64_id (x := left * 100000) (by omega) (by omega), R_up (by omega) (by omega) (by omega) (by omega)]
    simp only [bindS]
    rw [w64_id (by omega) (by omega)]
  · have hpos : 0 < l * 100000 - left * r := by
      have hL : Lab l r a := ⟨hl, by omega, h1 rfl, by omega⟩
      have k : left + 1 ≤ l * 100000 * (a - r) / (r * a) := by
        have e : sMost 1 1 l r a = l * 100000 * (a - r) / (r * a) := rfl
        rw [← e]; omega
      rw [Int.le_ediv_iff_mul_le hL.p.1] at k
      have q1 : left * r * a < l * 100000 * a := by
        have := hL.p.1
        have m3 := Int.mul_nonneg (show 0 ≤ l * 100000 by omega) (show 0 ≤ r by omega)
        grind
      have := Int.lt_of_mul_lt_mul_right q1 (by omega)
      omega
    rw [if_neg (by omega), if_neg (by omega), w64_id (x := l * 100000) (by omega) (by omega), w64_id (x := l * 100000 * r) (by omega) (by omega), w64_id (x := left * r) (by omega) (by omega), w64_id (x := l * 100000 - left * r) (by omega) (by omega), R_up m1.1 (by omega) hpos (by omega)]
    simp only [bindS]
end XR
