/-! more calls that change nothing, or one number -/
def owd (s : Nat → Int) (k : Nat) : Int := w64 (s (8 + k) + w64 (Int.tdiv (w64 (s 5 * s (6 + k))) 1048576))
section OWED
variable {M : MZ} {b : Nat} {kk : Bool} {N T : Nat → Int} {L : List (Nat → Int)} {th pe po : Int}
theorem K_owed (hb : bOK b) (R : Rep kk M b N T L th pe po) {i k : Nat} (hi : i < L.length) (hk : k < 2) : g_X7_owed (zR M (b + 3) i) k M = some (owd (L.getD i d0) k, M) := by
  have h12 := R.2.2.2.2.2.2
  unfold g_X7_owed g_X7_owed_9 owd
  rw [if_neg (by omega), if_pos (by omega), if_pos (R.2.2.2.2.2.1.kd hb (by omega)), if_pos (by omega), if_pos (by omega), Int.toNat_natCast, K_sI R hi (w := 5) (by omega), K_sG R hi hk, K_sD R hi hk]
theorem R_owedTo (R : RepR M N T L th pe po) {i k : Nat} (hi : i < L.length) (hk : k < 2) : g_X12_owedTo i k M = some (owd (L.getD i d0) k, M) := by
  have h12 := R.2.2.2.2.2
  unfold g_X12_owedTo owd
  rw [w32_id (x := 8 + (k : Int)) (by omega) (by omega), w32_id (x := 6 + (k : Int)) (by omega) (by omega), R_stk R hi (w := 8 + (k : Int)) (by omega) (by omega)]
  simp only [bindS]
  rw [R_stk R hi (w := 5) (by omega) (by omega)]
  simp only [bindS]
  rw [R_stk R hi (w := 6 + (k : Int)) (by omega) (by omega)]
  simp only [bindS]
  rw [show (8 + (k : Int)).toNat = 8 + k by omega, show (6 + (k : Int)).toNat = 6 + k by omega, show (5 : Int).toNat = 5 from rfl]
theorem K_reaches (hb : bOK b) (R : Rep kk M b N T L th pe po) {i : Nat} (hi : i < L.length) (z : Int) : g_X7_reaches (zR M (b + 3) i) z M = some (bI (L.getD i d0 2 ≤ z ∧ z < L.getD i d0 3), M) := by
  have h12 := R.2.2.2.2.2.2
  unfold g_X7_reaches g_X7_reaches_20 g_X7_reaches_21 bI
  rw [if_pos (R.2.2.2.2.2.1.kd hb (by omega)), K_sI R hi (w := 2) (by omega), K_sI R hi (w := 3) (by omega)]
  repeat' split
  all_goals first | rfl | omega
/-- what lies in a stake of the row -/
theorem K_lies (hb : bOK b) (R : Rep kk M b N T L th pe po) (W : WF N T L th pe po) {i p : Nat} (hi : i < L.length) (hp : p < 5) (hq : (p : Int) < po) {l : Int} (hl : 0 ≤ l ∧ l ≤ 12000000) (k u : Int) : g_X7_liesIn (zR M (b + 3) i) (b + 2 + 2 + 5 * p) l k u M = some (lie (N (22 + 23 * p)) (N (22 + 23 * p + 1)) l (L.getD i d0 2) (L.getD i d0 3) k u, M) := by
  have h12 := R.2.2.2.2.2.2
  have hs := W.2.2 _ (getD_mem hi)
  have hz := (W.2.1 p hp hq).2
  have a1 := rtz_r (t := N (22 + 23 * p + 1)) (by have := hz.1; omega) (by have := hz.1; omega)
  have a2 := rtz_r (t := N (22 + 23 * p + 1) + 1) (by have := hz.1; omega) (by have := hz.1; omega)
  have h1 := hz.1
  have h2 := hz.2
  exact K_liesIn (R.2.2.2.2.2.1.kd hb (by omega)) (kdp hb hp) (by rw [K_root R hp hq, w32_id (by omega) (by omega)]) (by rw [K_zone R hp hq, w32_id (by omega) (by omega)]) (K_sI R hi (by omega)) (K_sI R hi (by omega)) hz hl (by have := hs.2.2.1; omega) k u
theorem R_lies (R : RepR M N T L th pe po) (K : KON M) (W : WF N T L th pe po) {i p : Nat} (hi : i < L.length) (hp : p < 5) (hq : (p : Int) < po) {l : Int} (hl : 0 ≤ l ∧ l ≤ 12000000) {k : Int} (hk : k = 0 ∨ k = 1) (u : Int) : g_X12_liesIn p (L.getD i d0 2) (L.getD i d0 3) l k u M = some (lie (N (22 + 23 * p)) (N (22 + 23 * p + 1)) l (L.getD i d0 2) (L.getD i d0 3) k u, M) := by
  have hs := W.2.2 _ (getD_mem hi)
  exact R_liesIn R K hp (W.2.1 p hp hq).2 hl (by have := hs.2.2.1; omega) hk u
end OWED
theorem Sok.w {pe po : Int} {s : Nat → Int} (h : Sok pe po s) (h1 : pe ≤ 4) (h2 : po ≤ 5) {j : Nat} (hj : j < 6) : w32 (s j) = s j := by
  obtain ⟨a, b, c, d, e, -⟩ := h
  have : j = 0 ∨ j = 1 ∨ j = 2 ∨ j = 3 ∨ j = 4 ∨ j = 5 := by omega
  rcases this with rfl | rfl | rfl | rfl | rfl | rfl
  · exact w32_id (by omega) (by omega)
  · exact w32_id (by omega) (by omega)
  · exact w32_id (by omega) (by omega)
  · exact w32_id (by omega) (by omega)
  · exact w32_id (by omega) (by omega)
  · exact w32_id (by omega) (by omega)
theorem q_stake {M : MZ} (h : IV M) (i w : Int) : ∃ r, g_X11_stake i w M = some (r, M) ∧ g_X12_stake i w M = some (r, M) := by
  obtain ⟨N, T, L, th, pe, po, R, RR, W, -, -, -, -, K, -⟩ := h
  have hz := W.1.r
  have h12 := R.2.2.2.2.2.2
  unfold g_X11_stake g_X12_stake g_X12_stake_20
  rw [R_isStake RR]
  simp only [bindS, bI_0]
  by_cases hi : 0 ≤ i ∧ i < L.length
  · obtain ⟨i, rfl⟩ := zR_nat hi.1
    have hl : i < L.length := by omega
    have hs := W.2.2 _ (getD_mem hl)
    obtain ⟨p, ep⟩ := zR_nat hs.2.1.1
    have hp : p < 5 := by have := hs.2.1; omega
    have hq : (p : Int) < po := by have := hs.2.1; omega
    have hkd := R.2.2.2.2.2.1.kd b78 (show i < 12 by omega)
    have hne : zR M (78 + 3) i ≠ 0 := by have := R.2.2.2.2.2.1.rng (show i < 12 by omega); omega
    have hzz := (W.2.1 p hp hq).2
    have ezn := K_zone R hp hq
    rw [w32_id (by have := hzz.1; omega) (by have := hzz.1; omega)] at ezn
    rw [K_stakeAt_y b78 (by omega) (by rw [R.1.2.2.2.1]; exact hi.2), if_neg (fun q => q hi), R_isIn]
    simp only [bindS, bI_0]
    rw [if_neg hne, if_pos hkd, K_sI R hl (w := 1) (by omega), ep, K_poolAt_y b78 hp (by rw [R.1.2.2.1]; exact hq)]
    simp only [bindS]
    unfold g_X11_stake_28 g_X11_stake_187
    rw [if_neg (show ¬ 78 + 2 + 2 + 5 * p = 0 by omega)]
    simp only [if_pos hkd, if_pos (kdp b78 hp), K_sI R hl (w := 0) (by omega), K_sI R hl (w := 1) (by omega), K_sI R hl (w := 2) (by omega), K_sI R hl (w := 3) (by omega), K_sI R hl (w := 4) (by omega), K_sI R hl (w := 5) (by omega)]
    have hl5 : 0 ≤ L.getD i d0 5 ∧ L.getD i d0 5 ≤ 12000000 := by have := hs.2.2.2.2.1; omega
    have o0 : g_X7_owed (zR M (78 + 3) i) 0 M = some (owd (L.getD i d0) 0, M) := K_owed b78 R hl (k := 0) (by omega)
    have o1 : g_X7_owed (zR M (78 + 3) i) 1 M = some (owd (L.getD i d0) 1, M) := K_owed b78 R hl (k := 1) (by omega)
    have r0 : g_X12_owedTo i 0 M = some (owd (L.getD i d0) 0, M) := R_owedTo RR hl (k := 0) (by omega)
    have r1 : g_X12_owedTo i 1 M = some (owd (L.getD i d0) 1, M) := R_owedTo RR hl (k := 1) (by omega)
    have e1 : w32 (p : Int) = p := w32_id (by omega) (by omega)
    have es := fun j (hj : j < 6) => hs.w (by omega) (by omega) (j := j) hj
    have ew : ∀ x : Int, 0 ≤ x → x < 10 → g_X12_ofStake i x M = some (L.getD i d0 x.toNat, M) := fun x h1 h2 => R_stk RR hl h1 h2
    by_cases hw : 0 ≤ w ∧ w ≤ 10
    · rw [if_neg (show ¬¬ (0 ≤ w ∧ w ≤ 10) from fun q => q hw)]
      have hcase : w = 0 ∨ w = 1 ∨ w = 2 ∨ w = 3 ∨ w = 4 ∨ w = 5 ∨ w = 6 ∨ w = 7 ∨ w = 8 ∨ w = 9 ∨ w = 10 := by omega
      unfold g_X12_stake_44 g_X12_stake_118
      rcases hcase with rfl | rfl | rfl | rfl | rfl | rfl | rfl | rfl | rfl | rfl | rfl
      · simp only [Int.reduceEq, Int.reduceLE, reduceIte, bindS, ew 0 (by omega) (by omega), show (0 : Int).toNat = 0 from rfl, es 0 (by omega)]
        exact ⟨_, rfl, rfl⟩
      · simp only [Int.reduceEq, Int.reduceLE, reduceIte, bindS, ew 1 (by omega) (by omega), show (1 : Int).toNat = 1 from rfl, es 1 (by omega)]
        exact ⟨_, rfl, by rw [ep]⟩
      · simp only [Int.reduceEq, Int.reduceLE, reduceIte, bindS, ew 2 (by omega) (by omega), show (2 : Int).toNat = 2 from rfl, es 2 (by omega)]
        exact ⟨_, rfl, rfl⟩
      · simp only [Int.reduceEq, Int.reduceLE, reduceIte, bindS, ew 3 (by omega) (by omega), show (3 : Int).toNat = 3 from rfl, es 3 (by omega)]
        exact ⟨_, rfl, rfl⟩
      · simp only [Int.reduceEq, Int.reduceLE, reduceIte, bindS, ew 4 (by omega) (by omega), show (4 : Int).toNat = 4 from rfl, es 4 (by omega)]
        exact ⟨_, rfl, rfl⟩
      · simp only [Int.reduceEq, Int.reduceLE, reduceIte, bindS, ew 5 (by omega) (by omega), show (5 : Int).toNat = 5 from rfl, es 5 (by omega)]
        exact ⟨_, rfl, rfl⟩
      · simp only [Int.reduceEq, Int.reduceLE, reduceIte, bindS, ew 1 (by omega) (by omega), ew 2 (by omega) (by omega), ew 3 (by omega) (by omega), ew 5 (by omega) (by omega), show (1 : Int).toNat = 1 from rfl, ep, e1, show (2 : Int).toNat = 2 from rfl, show (3 : Int).toNat = 3 from rfl, show (5 : Int).toNat = 5 from rfl, es 2 (by omega), es 3 (by omega), show w32 (6 - 6) = 0 from rfl, R_lies RR K W hl hp hq hl5 (Or.inl rfl), K_lies b78 R W hl hp hq hl5]
        exact ⟨_, rfl, rfl⟩
      · simp only [Int.reduceEq, Int.reduceLE, reduceIte, bindS, ew 1 (by omega) (by omega), ew 2 (by omega) (by omega), ew 3 (by omega) (by omega), ew 5 (by omega) (by omega), show (1 : Int).toNat = 1 from rfl, ep, e1, show (2 : Int).toNat = 2 from rfl, show (3 : Int).toNat = 3 from rfl, show (5 : Int).toNat = 5 from rfl, es 2 (by omega), es 3 (by omega), show w32 (7 - 6) = 1 from rfl, R_lies RR K W hl hp hq hl5 (Or.inr rfl), K_lies b78 R W hl hp hq hl5]
        exact ⟨_, rfl, rfl⟩
      · simp only [Int.reduceEq, Int.reduceLE, reduceIte, bindS, ew 1 (by omega) (by omega), show w32 (8 - 8) = 0 from rfl, r0, o0]
        exact ⟨_, rfl, rfl⟩
      · simp only [Int.reduceEq, Int.reduceLE, reduceIte, bindS, ew 1 (by omega) (by omega), show w32 (9 - 8) = 1 from rfl, r1, o1]
        exact ⟨_, rfl, rfl⟩
      · simp only [Int.reduceEq, Int.reduceLE, reduceIte, bindS, ew 1 (by omega) (by omega), show (1 : Int).toNat = 1 from rfl, ep, e1, R_zone RR hp hzz.1, R_across RR hl, ezn, K_reaches b78 R hl, bI_0, true_and]
        refine ⟨if ¬(L.getD i d0 2 ≤ N (22 + 23 * p + 1) ∧ N (22 + 23 * p + 1) < L.getD i d0 3) then 0 else 1, ?_, ?_⟩
        · split <;> rfl
        · split <;> rfl
    · rw [if_pos (show ¬ (0 ≤ w ∧ w ≤ 10) from hw)]
      refine ⟨-1, ?_, rfl⟩
      rw [if_neg (by omega), if_neg (by omega), if_neg (by omega), if_neg (by omega), if_neg (by omega), if_neg (by omega), if_neg (by omega), if_neg (by omega), if_neg (by omega), if_neg (by omega), if_neg (by omega)]
  · rw [K_stakeAt_n b78 (by rw [R.1.2.2.2.1]; exact hi), if_pos hi]
    simp only [bindS]
    unfold g_X11_stake_28
    exact ⟨_, rfl, rfl⟩
theorem ok_stake (a b : Int32) : SO INV (f_X11_stake a b) (f_X12_stake a b) := SO_q (fun _ => l_X11_stake rfl rfl rfl) (fun _ => l_X12_stake rfl rfl rfl) (fun _ h => q_stake h _ _)
