/-! add, as the developers have it -/
def nst (per p lo hi au l : Int) : Nat → Int := fun w => if w = 0 then per else if w = 1 then p else if w = 2 then lo else if w = 3 then hi else if w = 4 then au else if w = 5 then l else 0
theorem sm3 (M : MZ) (b k : Nat) : ∀ h, sameH M (uI M b k (zI M b k)) h := fun h j => ⟨by
  rw [zI_uI]
  split
  · rename_i c; rw [c.1, c.2]
  · rfl, rfl, rfl⟩
section AD
variable {M : MZ} {b : Nat} {kk : Bool} {N T : Nat → Int} {L : List (Nat → Int)} {th pe po : Int}
theorem K_payOut2 (hb : bOK b) (R : Rep kk M b N T L th pe po) {p k per : Nat} (hp : p < 5) (hq : (p : Int) < po) (hk : k < 2) (hper : per < 4) (ht : 0 ≤ T (5 * p + k) ∧ T (5 * p + k) < 5) (x : Int) {M' : MZ} (hg : g_X2_payOut b (b + 2 + 2 + 5 * p) k per x M = some ((), M')) : ∀ h, h ≠ b + 2 + 2 + 5 * p + 1 → h ≠ b + 1 → sameH M M' h := by
  obtain ⟨t, et⟩ := zR_nat ht.1
  have ht5 : t < 5 := by omega
  unfold g_X2_payOut g_X2_payOut_30 at hg
  rw [K_isSide] at hg
  simp only [bindS, bI_0] at hg
  rw [if_neg (by omega), if_pos (kdp hb hp), if_pos (by omega), if_pos (by omega), K_thingOn hb hp] at hg
  simp only [bindS] at hg
  rw [if_pos (kdb hb), zI_uI, if_neg (by omega), show (if (k : Int) = 0 then 0 else 1) = k by split <;> omega, K_told R hp hq (by omega), et, K_putIntoPurse hb hper ht5] at hg
  simp only [bindS] at hg
  cases hg
  intro h h1 h2
  exact (sameH_uI h1).trans (sameH_uI h2)
/-- the end of adding, at any object -/
theorem K_add_end (hb : bOK b) (R : Rep kk M b N T L th pe po) {p per h : Nat} (hp : p < 5) (hq : (p : Int) < po) (hper : per < 4) (ht : T2 T p) (hU : ∀ j, j < 20 → 0 ≤ N (2 + j) ∧ N (2 + j) ≤ 39999996) (hRz : Rzz (N (22 + 23 * p)) (N (22 + 23 * p + 1))) {l lo hi cur : Int} (hl : 1 ≤ l ∧ l ≤ 99999) (htk : 0 ≤ lo ∧ lo < hi ∧ hi ≤ 40) (kh : kd h = (6, 8)) (e2 : zI M h 2 = lo) (e3 : zI M h 3 = hi) (e5 : zI M h 5 = cur) (hcur : 0 ≤ cur ∧ cur ≤ 999999) (v8 v9 : Int) :
    (¬ (cur + l ≤ 999999 ∧ lie (N (22 + 23 * p)) (N (22 + 23 * p + 1)) l lo hi 0 1 ≤ N (uc T p 0 per) ∧ lie (N (22 + 23 * p)) (N (22 + 23 * p + 1)) l lo hi 1 1 ≤ N (uc T p 1 per)) → g_X2_addStake_131 b per l (b + 2 + 2 + 5 * p) v8 v9 h M = some (-1, M)) ∧
    ((cur + l ≤ 999999 ∧ lie (N (22 + 23 * p)) (N (22 + 23 * p + 1)) l lo hi 0 1 ≤ N (uc T p 0 per) ∧ lie (N (22 + 23 * p)) (N (22 + 23 * p + 1)) l lo hi 1 1 ≤ N (uc T p 1 per)) → ∀ M1 M3 M4 : MZ, g_X7_settle h M = some ((), M1) → zI M1 h 5 = cur → g_X2_payOut b (b + 2 + 2 + 5 * p) 0 per (w32 (w64 (-lie (N (22 + 23 * p)) (N (22 + 23 * p + 1)) l lo hi 0 1))) (uI M1 h 5 (cur + l)) = some ((), M3) → g_X2_payOut b (b + 2 + 2 + 5 * p) 1 per (w32 (w64 (-lie (N (22 + 23 * p)) (N (22 + 23 * p + 1)) l lo hi 1 1))) M3 = some ((), M4) → g_X2_addStake_131 b per l (b + 2 + 2 + 5 * p) v8 v9 h M = some (v9, uI M4 b 3 (if v8 = -1 then w32 (zI M4 b 3 + 1) else zI M4 b 3))) := by
  obtain ⟨t0, x0⟩ := zR_nat ht.1.1
  obtain ⟨t1, x1⟩ := zR_nat ht.2.1.1
  have h5 : t0 < 5 := by have := ht.1; omega
  have h6 : t1 < 5 := by have := ht.2.1; omega
  have hz1 := hRz.1
  have hz2 := hRz.2
  have a1 := rtz_r (t := N (22 + 23 * p + 1)) (by omega) (by omega)
  have a2 := rtz_r (t := N (22 + 23 * p + 1) + 1) (by omega) (by omega)
  have y := fun k u => K_liesIn kh (kdp hb hp) (by rw [K_root R hp hq, w32_id (by omega) (by omega)]) (by rw [K_zone R hp hq, w32_id (by omega) (by omega)]) e2 e3 hRz (l := l) (by omega) htk k u
  have eu0 : uc T p 0 per = 2 + (5 * per + t0) := by
    show 2 + (5 * per + (T (5 * p)).toNat) = _
    rw [x0, Int.toNat_natCast]
  have eu1 : uc T p 1 per = 2 + (5 * per + t1) := by
    show 2 + (5 * per + (T (5 * p + 1)).toNat) = _
    rw [x1, Int.toNat_natCast]
  have k0 : zI M (b + 2 + 2 + 5 * p) 0 = (t0 : Int) := by rw [K_told R hp hq (by omega)]; exact x0
  have k1 : zI M (b + 2 + 2 + 5 * p) 1 = (t1 : Int) := by rw [K_told R hp hq (by omega)]; exact x1
  have q0 : g_X2_purseOf b per t0 M = some (N (uc T p 0 per), M) := by
    have := hU (5 * per + t0) (by omega)
    rw [K_purseOf hb hper h5, R.2.1 _ (by omega), w32_id (by omega) (by omega), eu0]
  have q1 : g_X2_purseOf b per t1 M = some (N (uc T p 1 per), M) := by
    have := hU (5 * per + t1) (by omega)
    rw [K_purseOf hb hper h6, R.2.1 _ (by omega), w32_id (by omega) (by omega), eu1]
  have hstart : g_X2_addStake_131 b per l (b + 2 + 2 + 5 * p) v8 v9 h M = (if 999999 < cur + l then some (-1, M) else (if N (uc T p 0 per) < lie (N (22 + 23 * p)) (N (22 + 23 * p + 1)) l lo hi 0 1 then some (-1, M) else (if lie (N (22 + 23 * p)) (N (22 + 23 * p + 1)) l lo hi 1 1 ≤ N (uc T p 1 per) then ((g_X7_settle h M).bind fun q210 => ((g_X2_payOut b (b + 2 + 2 + 5 * p) 0 per (w32 (w64 (-lie (N (22 + 23 * p)) (N (22 + 23 * p + 1)) l lo hi 0 1))) (uI q210.2 h 5 (w32 ((zI q210.2 h 5) + l)))).bind fun q234 => ((g_X2_payOut b (b + 2 + 2 + 5 * p) 1 per (w32 (w64 (-lie (N (22 + 23 * p)) (N (22 + 23 * p + 1)) l lo hi 1 1))) q234.2).bind fun q246 => (if v8 = (-1) then (g_X2_addStake_269 v9 (w32 ((zI q246.2 b 3) + 1)) b q246.2) else (g_X2_addStake_269 v9 (zI q246.2 b 3) b q246.2))))) else some (-1, M)))) := by
    unfold g_X2_addStake_131 g_X2_addStake_206
    rw [if_pos kh, y 0 1]
    simp only [bindS]
    rw [y 1 1]
    simp only [bindS]
    rw [e5, w32_id (x := cur + l) (by omega) (by omega), if_pos (kdp hb hp), if_pos (kdb hb), k0, q0]
    simp only [bindS]
    rw [k1, q1]
    simp only [bindS]
  rw [hstart]
  refine ⟨fun hn => ?_, fun hg M1 M3 M4 s1 s2 s3 s4 => ?_⟩
  · by_cases c1 : 999999 < cur + l
    · rw [if_pos c1]
    · rw [if_neg c1]
      split
      · rfl
      · rw [if_neg (by omega)]
  · rw [if_neg (by omega), if_neg (by omega), if_pos hg.2.2, s1]
    simp only [bindS]
    rw [s2, w32_id (x := cur + l) (by omega) (by omega), s3]
    simp only [bindS]
    rw [s4]
    simp only [bindS]
    unfold g_X2_addStake_269
    rw [if_pos (kdb hb), if_pos (kdb hb)]
    split <;> rfl
end AD
