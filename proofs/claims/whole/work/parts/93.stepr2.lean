/-! one step, the reference's half, wholly -/
section XS
variable {M : MZ} {N T : Nat → Int} {L : List (Nat → Int)} {th pe po : Int}
def xF (N T : Nat → Int) (L : List (Nat → Int)) (p : Nat) (side e o left : Int) : Int := if xRe N T L p side e o left then 1 else 0
theorem R_stepsA (R : RepR M N T L th pe po) (K : KON M) (W : WF N T L th pe po) {p : Nat} {side e o left : Int} (h : Pgo N T L p po side e o left) (hleft : zL M 20 29 = left) : g_X12_steps p side e o M = g_X12_steps_332 p side e o (xA N L p side e) (xF N T L p side e o left) (xRt N T L p side e o left) (xGo N T L p side e o left) (xCo N T L p side e o left) (xFe N T L p side e o left) M := by
  have h' := h
  obtain ⟨hP, hA, hA0, hA1, hrz⟩ := h.pst W R.2.2.2.2.2
  have hn := sN_r hP
  have hm := sMost_r hP
  have hrt := sRt_r hP
  have hco := sCo_nn hP
  have hgo := sGo_nn hP
  have hfe := sFe_nn hP
  obtain ⟨hp, hq, hs, ho, he, hge, hle⟩ := h'
  have hf := ((W.2.1 p hp hq).1).2.2.2.1
  have o0 : g_X12_ofPool p 0 M = some (xr N p, M) := R_pool R hp (by omega) (by omega)
  have ek : zL M 21 (xA N L p side e).toNat = rtz (xA N L p side e) := K.1 _ (by omega)
  have h41 : 0 ≤ xA N L p side e ∧ xA N L p side e < ((41 : Nat) : Int) := by omega
  have hP' := hP
  obtain ⟨_, _, hl, hr, ha, h0, h1, _, _⟩ := hP'
  -- up to the number that can come
  have e1 : g_X12_steps p side e o M = g_X12_steps_60 p side e o (xA N L p side e) (xl N L p) (xr N p) (sN o (T (5 * p + 2)) left) M := by
    unfold g_X12_steps
    rw [R_aim R W.2.2 hp hrz.1]
    simp only [bindS]
    rw [R_zone R hp hrz.1]
    simp only [bindS]
    rw [R_depthOf R W.2.2]
    simp only [bindS]
    rw [o0]
    simp only [bindS]
    rw [R_feeOf hp, R.2.1 _ (by omega), hleft]
    simp only [bindS]
    unfold sN
    rcases ho with rfl | rfl
    · have m := mulr (a := left) (b := 1000 - T (5 * p + 2)) (A := 10000000000) (B := 1000) (by omega) (by omega) (by omega) (by omega)
      have d := fdiv_r (x := left * (1000 - T (5 * p + 2))) (y := 1000) m.1 (by omega)
      rw [if_pos rfl, if_pos rfl, w32_id (x := 1000 - T (5 * p + 2)) (by omega) (by omega), w64_id (x := left * (1000 - T (5 * p + 2))) (by omega) (by omega), Int.tdiv_eq_ediv_of_nonneg m.1, w64_id (by omega) (by omega)]
      rfl
    · rw [if_neg (by omega), if_neg (by omega)]
      rfl
  have e2 : g_X12_steps_60 p side e o (xA N L p side e) (xl N L p) (xr N p) (sN o (T (5 * p + 2)) left) M = g_X12_steps_115 p side e o (xA N L p side e) (xl N L p) (xr N p) (sN o (T (5 * p + 2)) left) (sMost o side (xl N L p) (xr N p) (rtz (xA N L p side e))) M := by
    unfold g_X12_steps_60
    rcases ho with rfl | rfl
    · rw [if_pos rfl, R_wanted R K W h]
      simp only [bindS]
    · rw [if_neg (by omega), if_pos h41, if_pos h41, ek]
      have em : sMost 1 side (xl N L p) (xr N p) (rtz (xA N L p side e)) = if side = 0 then snd' (xl N L p) (rtz (xA N L p side e)) (xr N p) 0 else fst' (xl N L p) (xr N p) (rtz (xA N L p side e)) 0 := if_neg (by omega)
      rw [em]
      rcases hs with rfl | rfl
      · rw [if_pos rfl, if_pos rfl, R_second ⟨hl, by omega, h0 rfl, by omega⟩]
        simp only [bindS]
      · rw [if_neg (by omega), if_neg (by omega), R_first ⟨hl, by omega, h1 rfl, by omega⟩]
        simp only [bindS]
  have e3 : g_X12_steps_115 p side e o (xA N L p side e) (xl N L p) (xr N p) (sN o (T (5 * p + 2)) left) (sMost o side (xl N L p) (xr N p) (rtz (xA N L p side e))) M = g_X12_steps_171 p side e o (xA N L p side e) (xl N L p) (xr N p) (sN o (T (5 * p + 2)) left) (sMost o side (xl N L p) (xr N p) (rtz (xA N L p side e))) (xF N T L p side e o left) (xRt N T L p side e o left) M := by
    unfold g_X12_steps_115 g_X12_steps_130 xF
    by_cases hre : xRe N T L p side e o left = true
    · have hge' : sMost o side (xl N L p) (xr N p) (rtz (xA N L p side e)) ≤ sN o (T (5 * p + 2)) left := of_decide_eq_true hre
      have er : xRt N T L p side e o left = rtz (xA N L p side e) := by
        have hre' : sRe o side (xl N L p) (xr N p) (rtz (xA N L p side e)) (T (5 * p + 2)) left = true := hre
        unfold xRt sRt
        rw [if_pos hre']
      rw [if_neg (by omega), if_neg (by omega), if_pos h41, if_pos hre, ek, er]
    · have hlt : ¬ sMost o side (xl N L p) (xr N p) (rtz (xA N L p side e)) ≤ sN o (T (5 * p + 2)) left := fun q => hre (decide_eq_true q)
      have hre2 : xRe N T L p side e o left = false := by simpa using hre
      rw [if_pos (by omega), if_pos rfl, if_neg hre]
      rcases ho with rfl | rfl
      · rw [if_pos rfl, R_rootBy R W h hre2]
        simp only [bindS]
      · have eN : sN 1 (T (5 * p + 2)) left = left := if_neg (by omega)
        rw [if_neg (by omega), eN, R_rootByOut R W h hre2]
        simp only [bindS]
  have hrt' : (side = 0 → rtz (xA N L p side e) ≤ xRt N T L p side e o left ∧ xRt N T L p side e o left ≤ xr N p) ∧ (side = 1 → xr N p ≤ xRt N T L p side e o left ∧ xRt N T L p side e o left ≤ rtz (xA N L p side e)) := hrt
  have e4 : g_X12_steps_171 p side e o (xA N L p side e) (xl N L p) (xr N p) (sN o (T (5 * p + 2)) left) (sMost o side (xl N L p) (xr N p) (rtz (xA N L p side e))) (xF N T L p side e o left) (xRt N T L p side e o left) M = g_X12_steps_205 p side e o (xA N L p side e) (xl N L p) (sN o (T (5 * p + 2)) left) (sMost o side (xl N L p) (xr N p) (rtz (xA N L p side e))) (xF N T L p side e o left) (xRt N T L p side e o left) (if side = 0 then xRt N T L p side e o left else xr N p) (if side = 0 then xr N p else xRt N T L p side e o left) M := by
    unfold g_X12_steps_171 g_X12_steps_188
    rcases hs with rfl | rfl
    · have q := hrt'.1 rfl
      rw [if_pos rfl, if_pos rfl]
      by_cases c : xr N p ≤ xRt N T L p 0 e o left
      · have ee : xRt N T L p 0 e o left = xr N p := by omega
        rw [ee, if_pos (Int.le_refl _), if_pos (Int.le_refl _)]
      · rw [if_neg c, if_neg c]
    · have q := hrt'.2 rfl
      rw [if_neg (show ¬ (1 : Int) = 0 by omega), if_neg (show ¬ (1 : Int) = 0 by omega), if_pos q.1, if_pos q.1]
  have hre : xF N T L p side e o left = 0 ↔ ¬ xRe N T L p side e o left = true := by
    unfold xF
    split <;> simp_all
  have e5 : g_X12_steps_205 p side e o (xA N L p side e) (xl N L p) (sN o (T (5 * p + 2)) left) (sMost o side (xl N L p) (xr N p) (rtz (xA N L p side e))) (xF N T L p side e o left) (xRt N T L p side e o left) (if side = 0 then xRt N T L p side e o left else xr N p) (if side = 0 then xr N p else xRt N T L p side e o left) M = g_X12_steps_254 p side e o (xA N L p side e) (xl N L p) (sN o (T (5 * p + 2)) left) (sMost o side (xl N L p) (xr N p) (rtz (xA N L p side e))) (xF N T L p side e o left) (xRt N T L p side e o left) (if side = 0 then xRt N T L p side e o left else xr N p) (if side = 0 then xr N p else xRt N T L p side e o left) (xGo N T L p side e o left) M := by
    have eg : xGo N T L p side e o left = if o = 0 then (if side = 0 then snd' (xl N L p) (xRt N T L p side e o left) (xr N p) 0 else fst' (xl N L p) (xr N p) (xRt N T L p side e o left) 0) else (if xRe N T L p side e o left then sMost o side (xl N L p) (xr N p) (rtz (xA N L p side e)) else sN o (T (5 * p + 2)) left) := rfl
    unfold g_X12_steps_205
    rcases ho with rfl | rfl
    · rw [if_pos rfl] at eg
      rw [if_pos rfl]
      rcases hs with rfl | rfl
      · have q := hrt'.1 rfl
        rw [if_pos rfl] at eg
        simp only [if_true]
        rw [R_second ⟨hl, by omega, q.2, by omega⟩]
        simp only [bindS]
        rw [← eg]
      · have q := hrt'.2 rfl
        rw [if_neg (by omega)] at eg
        simp only [Int.reduceEq, if_false]
        rw [R_first ⟨hl, by omega, q.1, by omega⟩]
        simp only [bindS]
        rw [← eg]
    · rw [if_neg (by omega)] at eg
      rw [if_neg (by omega), eg]
      by_cases c : xRe N T L p side e 1 left = true
      · rw [if_pos c, if_neg (fun q => hre.mp q c)]
      · rw [if_neg c, if_pos (hre.mpr c)]
  have e6 : g_X12_steps_254 p side e o (xA N L p side e) (xl N L p) (sN o (T (5 * p + 2)) left) (sMost o side (xl N L p) (xr N p) (rtz (xA N L p side e))) (xF N T L p side e o left) (xRt N T L p side e o left) (if side = 0 then xRt N T L p side e o left else xr N p) (if side = 0 then xr N p else xRt N T L p side e o left) (xGo N T L p side e o left) M = g_X12_steps_303 p side e o (xA N L p side e) (sN o (T (5 * p + 2)) left) (xF N T L p side e o left) (xRt N T L p side e o left) (xGo N T L p side e o left) (xCo N T L p side e o left) M := by
    have eg : xCo N T L p side e o left = if o = 0 then (if xRe N T L p side e o left then sMost o side (xl N L p) (xr N p) (rtz (xA N L p side e)) else sN o (T (5 * p + 2)) left) else (if side = 0 then fst' (xl N L p) (xRt N T L p side e o left) (xr N p) 1 else snd' (xl N L p) (xr N p) (xRt N T L p side e o left) 1) := rfl
    unfold g_X12_steps_254
    rcases ho with rfl | rfl
    · rw [if_pos rfl] at eg
      rw [if_pos rfl, eg]
      by_cases c : xRe N T L p side e 0 left = true
      · rw [if_pos c, if_neg (fun q => hre.mp q c)]
      · rw [if_neg c, if_pos (hre.mpr c)]
    · rw [if_neg (by omega)] at eg
      rw [if_neg (by omega)]
      rcases hs with rfl | rfl
      · have q := hrt'.1 rfl
        rw [if_pos rfl] at eg
        simp only [if_true]
        rw [R_first ⟨hl, by omega, q.2, by omega⟩]
        simp only [bindS]
        rw [← eg]
      · have q := hrt'.2 rfl
        rw [if_neg (by omega)] at eg
        simp only [Int.reduceEq, if_false]
        rw [R_second ⟨hl, by omega, q.1, by omega⟩]
        simp only [bindS]
        rw [← eg]
  have e7 : g_X12_steps_303 p side e o (xA N L p side e) (sN o (T (5 * p + 2)) left) (xF N T L p side e o left) (xRt N T L p side e o left) (xGo N T L p side e o left) (xCo N T L p side e o left) M = g_X12_steps_332 p side e o (xA N L p side e) (xF N T L p side e o left) (xRt N T L p side e o left) (xGo N T L p side e o left) (xCo N T L p side e o left) (xFe N T L p side e o left) M := by
    have eg : xFe N T L p side e o left = if o = 0 ∧ ¬ xRe N T L p side e o left then left - sN o (T (5 * p + 2)) left else cdiv (xCo N T L p side e o left * T (5 * p + 2)) (1000 - T (5 * p + 2)) := rfl
    have hco' : 0 ≤ xCo N T L p side e o left ∧ xCo N T L p side e o left ≤ 10000000000 := hco
    unfold g_X12_steps_303 g_X12_steps_315
    rw [R_feeUpon R hp hf hco', hleft]
    simp only [bindS]
    rw [eg]
    rcases ho with rfl | rfl
    · rw [if_pos rfl]
      by_cases c : xRe N T L p side e 0 left = true
      · rw [if_neg (fun q => hre.mp q c), if_neg (fun q => q.2 c)]
      · rw [if_pos (hre.mpr c), if_pos ⟨rfl, c⟩, w64_id (by omega) (by omega)]
    · rw [if_neg (by omega), if_neg (fun q => by omega)]
  rw [e1, e2, e3, e4, e5, e6, e7]
end XS
