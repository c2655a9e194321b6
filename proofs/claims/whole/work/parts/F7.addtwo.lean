/-! adding, the two memories apart -/
theorem add_two {D : Nat → Nat → Int} {M : MZ} {N T : Nat → Int} {L : List (Nat → Int)} {th pe po : Int} {kk : Bool} (R : Rep kk M 78 N T L th pe po) {Mr : MZ} (RR : RepR Mr N T L th pe po) (K : KON Mr) (W : WF N T L th pe po) (h : MnyD D N T L po) (hD : ∀ p k, D p k ≤ 39999996) (per p lo hi au l : Int) : ∃ (r : Int) (M1 M2 : MZ) (N' : Nat → Int) (L' : List (Nat → Int)), g_X2_addStake 78 per p lo hi au l M = some (r, M1) ∧ g_X12_adds per p lo hi au l Mr = some (r, M2) ∧ FrB 78 M M1 ∧ Fr23 Mr M2 ∧ Rep kk M1 78 N' T L' th pe po ∧ RepR M2 N' T L' th pe po ∧ WF N' T L' th pe po ∧ MnyD D N' T L' po ∧ (-1 ≤ r ∧ r ≤ 12) ∧ (∀ j, j < 2 → N' j = N j) ∧ (∀ q w, w < 23 → (w < 2 ∨ 4 ≤ w) → N' (22 + 23 * q + w) = N (22 + 23 * q + w)) ∧ (r = -1 → N' = N ∧ L' = L) ∧ (∀ q z, dep L q z ≤ dep L' q z) ∧ (r ≠ -1 → 0 ≤ p ∧ p < po) := by
  have hz := W.1.r
  have h12 := R.2.2.2.2.2.2
  have hno : ∀ M1 : MZ, FrB 78 M M1 → Rep kk M1 78 N T L th pe po → g_X2_addStake 78 per p lo hi au l M = some (-1, M1) → g_X12_adds per p lo hi au l Mr = some (-1, Mr) → ∃ (r : Int) (M1 M2 : MZ) (N' : Nat → Int) (L' : List (Nat → Int)), g_X2_addStake 78 per p lo hi au l M = some (r, M1) ∧ g_X12_adds per p lo hi au l Mr = some (r, M2) ∧ FrB 78 M M1 ∧ Fr23 Mr M2 ∧ Rep kk M1 78 N' T L' th pe po ∧ RepR M2 N' T L' th pe po ∧ WF N' T L' th pe po ∧ MnyD D N' T L' po ∧ (-1 ≤ r ∧ r ≤ 12) ∧ (∀ j, j < 2 → N' j = N j) ∧ (∀ q w, w < 23 → (w < 2 ∨ 4 ≤ w) → N' (22 + 23 * q + w) = N (22 + 23 * q + w)) ∧ (r = -1 → N' = N ∧ L' = L) ∧ (∀ q z, dep L q z ≤ dep L' q z) ∧ (r ≠ -1 → 0 ≤ p ∧ p < po) := by
    intro M1 F R1 a1 a2
    exact ⟨-1, M1, Mr, N, L, a1, a2, F, Fr23.rfl, R1, RR, W, h, by omega, fun _ _ => rfl, fun _ _ _ _ => rfl, fun _ => ⟨rfl, rfl⟩, fun _ _ => Int.le_refl _, fun q => absurd rfl q⟩
  have c78 : kd 78 = (1, 9) := kdb b78
  have hk1 : g_X2_addStake 78 per p lo hi au l M = ((g_X2_poolAt 78 p M).bind fun q2 => (if q2.1 = 0 then some (-1, q2.2) else ((g_X2_hasPerson 78 per q2.2).bind fun q14 => (if q14.1 = 0 then some (-1, q14.2) else (if au < 0 then some (-1, q14.2) else (if 2 < au then some (-1, q14.2) else ((g_X2_isRange q2.1 lo hi q14.2).bind fun q36 => (if q36.1 = 0 then some (-1, q36.2) else (if l < 1 then some (-1, q36.2) else (if l ≤ 99999 then ((g_X2_findStake 78 per p lo hi au q36.2).bind fun q65 => (if q65.1 = (-1) then (g_X2_addStake_85 78 per p lo hi au l q2.1 q65.1 (zI q65.2 78 3) q65.2) else (g_X2_addStake_85 78 per p lo hi au l q2.1 q65.1 q65.1 q65.2))) else some (-1, q36.2)))))))))))  := by
    unfold g_X2_addStake g_X2_addStake_55
    rw [if_pos c78]
  have hr1 : ∀ M1, g_X12_adds per p lo hi au l M1 = ((g_X12_isPerson per M1).bind fun q2 => (if q2.1 = 0 then some (-1, q2.2) else ((g_X12_isPool p q2.2).bind fun q10 => (if q10.1 = 0 then some (-1, q10.2) else ((g_X12_areTicks p lo hi q10.2).bind fun q21 => (if q21.1 = 0 then some (-1, q21.2) else ((g_X12_isIn au 0 2 q21.2).bind fun q34 => (if q34.1 = 0 then some (-1, q34.2) else ((g_X12_isIn l 1 99999 q34.2).bind fun q47 => (if q47.1 = 0 then some (-1, q47.2) else ((g_X12_stakeOf per p lo hi au q47.2).bind fun q63 => (if 0 ≤ q63.1 then ((g_X12_ofStake q63.1 5 q63.2).bind fun q89 => (if (w64 (q89.1 + l)) ≤ 999999 then (g_X12_adds_105 per p lo hi au l q63.1 q89.2) else some (-1, q89.2))) else ((g_X12_stakes q63.2).bind fun q74 => (if q74.1 = 12 then some (-1, q74.2) else (g_X12_adds_105 per p lo hi au l q63.1 q74.2))))))))))))))) := fun _ => rfl
  by_cases hpo : 0 ≤ p ∧ p < po
  case neg =>
    refine hno M FrB.rfl R ?_ ?_
    · rw [hk1, K_poolAt_n b78 (by rw [R.1.2.2.1]; exact hpo)]
      simp only [bindS]
      rw [if_pos trivial]
    · rw [hr1, R_isPerson]
      simp only [bindS, R_isPool, bI_0]
      rw [RR.1.2.2, if_pos hpo, ite_self]
  obtain ⟨p, rfl⟩ := zR_nat hpo.1
  have hp : p < 5 := by omega
  have hq := hpo.2
  have ht := W.t2 hp hq
  have hrz : Rzz (N (22 + 23 * p)) (N (22 + 23 * p + 1)) := (W.2.1 p hp hq).2
  by_cases hpe : 0 ≤ per ∧ per < pe
  case neg =>
    refine hno M FrB.rfl R ?_ ?_
    · rw [hk1, K_poolAt_y b78 hp (by rw [R.1.2.2.1]; exact hq)]
      simp only [bindS, K_hasPerson b78, bI_0]
      rw [if_neg (by omega), R.1.2.1, if_pos hpe]
    · rw [hr1, R_isPerson, RR.1.2.1]
      simp only [bindS, bI_0]
      rw [if_pos hpe]
  obtain ⟨per, rfl⟩ := zR_nat hpe.1
  have hper : per < 4 := by omega
  have dec : Decidable (rgo (T (5 * p + 4)) lo hi) := Classical.propDecidable _
  by_cases hrg : rgo (T (5 * p + 4)) lo hi
  case neg =>
    refine hno M FrB.rfl R ?_ ?_
    · rw [hk1, K_poolAt_y b78 hp (by rw [R.1.2.2.1]; exact hq)]
      simp only [bindS, K_hasPerson b78, bI_0, K_range b78 R W hp hq]
      rw [if_neg (by omega), R.1.2.1, if_neg (fun q => q hpe), if_pos hrg, ite_self, ite_self]
    · rw [hr1, R_isPerson, RR.1.2.1]
      simp only [bindS, bI_0, R_isPool, R_range RR W hp hq]
      rw [if_neg (fun q => q hpe), RR.1.2.2, if_neg (fun q => q hpo), if_pos hrg]
  by_cases hau : (0 ≤ au ∧ au ≤ 2) ∧ (1 ≤ l ∧ l ≤ 99999)
  case neg =>
    refine hno M FrB.rfl R ?_ ?_
    · rw [hk1, K_poolAt_y b78 hp (by rw [R.1.2.2.1]; exact hq)]
      simp only [bindS, K_hasPerson b78, bI_0, K_range b78 R W hp hq]
      rw [if_neg (by omega), R.1.2.1, if_neg (fun q => q hpe)]
      by_cases c1 : au < 0
      · rw [if_pos c1]
      · rw [if_neg c1]
        by_cases c2 : 2 < au
        · rw [if_pos c2]
        · rw [if_neg c2, if_neg (show ¬ ¬ rgo (T (5 * p + 4)) lo hi from fun q => q hrg)]
          by_cases c3 : l < 1
          · rw [if_pos c3]
          · rw [if_neg c3, if_neg (by omega)]
    · rw [hr1, R_isPerson, RR.1.2.1]
      simp only [bindS, bI_0, R_isPool, R_range RR W hp hq, R_isIn]
      rw [if_neg (fun q => q hpe), RR.1.2.2, if_neg (fun q => q hpo), if_neg (fun q => q hrg)]
      by_cases c1 : 0 ≤ au ∧ au ≤ 2
      · rw [if_neg (fun q => q c1), if_pos (by omega)]
      · rw [if_pos c1]
  have hl := hau.2
  have htk : 0 ≤ lo ∧ lo < hi ∧ hi ≤ 40 := by unfold rgo at hrg; omega
  have hk2 : g_X2_addStake 78 per p lo hi au l M = (if fnd L per p lo hi au = (-1) then (g_X2_addStake_85 78 per p lo hi au l (78 + 2 + 2 + 5 * p) (fnd L per p lo hi au) L.length M) else (g_X2_addStake_85 78 per p lo hi au l (78 + 2 + 2 + 5 * p) (fnd L per p lo hi au) (fnd L per p lo hi au) M)) := by
    rw [hk1, K_poolAt_y b78 hp (by rw [R.1.2.2.1]; exact hq)]
    simp only [bindS, K_hasPerson b78, bI_0, K_range b78 R W hp hq, K_find b78 R]
    rw [if_neg (by omega), R.1.2.1, if_neg (fun q => q hpe), if_neg (by omega), if_neg (by omega), if_neg (fun q => q hrg), if_neg (by omega), if_pos (by omega), R.1.2.2.2.1]
  have hr2 : ∀ M1, RepR M1 N T L th pe po → g_X12_adds per p lo hi au l M1 = (if 0 ≤ fnd L per p lo hi au then ((g_X12_ofStake (fnd L per p lo hi au) 5 M1).bind fun q89 => (if (w64 (q89.1 + l)) ≤ 999999 then (g_X12_adds_105 per p lo hi au l (fnd L per p lo hi au) q89.2) else some (-1, q89.2))) else (if (L.length : Int) = 12 then some (-1, M1) else (g_X12_adds_105 per p lo hi au l (fnd L per p lo hi au) M1))) := by
    intro M1 RR1
    rw [hr1, R_isPerson, RR1.1.2.1]
    simp only [bindS, bI_0, R_isPool, R_range RR1 W hp hq, R_isIn, R_find RR1, R_stakes RR1]
    rw [if_neg (fun q => q hpe), RR1.1.2.2, if_neg (fun q => q hpo), if_neg (fun q => q hrg), if_neg (fun q => q hau.1), if_neg (fun q => q hau.2)]
  have h85 : ∀ (fd : Int) (i : Nat), i < 12 → g_X2_addStake_85 78 per p lo hi au l (78 + 2 + 2 + 5 * p) fd i M = g_X2_addStake_113 78 per p lo hi au l (78 + 2 + 2 + 5 * p) fd i (zR M (78 + 3) i) M := by
    intro fd i hi12
    unfold g_X2_addStake_85 g_X2_addStake_102
    rw [if_neg (by omega), if_pos c78, if_pos (by omega), if_pos (by omega), Int.toNat_natCast]
  rcases fnd_r L per p lo hi au with hf | ⟨i, hi', hf, e0, e1, e2, e3, e4⟩
  · rw [hf, if_pos rfl] at hk2
    replace hr2 : ∀ M1, RepR M1 N T L th pe po → g_X12_adds per p lo hi au l M1 = (if (L.length : Int) = 12 then some (-1, M1) else (g_X12_adds_105 per p lo hi au l (-1) M1)) := fun M1 RR1 => by rw [hr2 M1 RR1, hf, if_neg (by omega)]
    by_cases hlen : L.length = 12
    · refine hno M FrB.rfl R ?_ ?_
      · rw [hk2]
        unfold g_X2_addStake_85 g_X2_addStake_102
        rw [if_neg (by omega), if_pos c78, if_neg (by omega)]
      · rw [hr2 Mr RR, if_pos (by omega)]
    · have hl12 : L.length < 12 := by omega
      rw [h85 (-1) L.length hl12] at hk2
      obtain ⟨n1, n2⟩ := K_add_new b78 R W h.hU hl12 (au := au) hp hq hper hl htk
      by_cases hg : adG N T p per l lo hi 0
      · obtain ⟨M1, a1, R1, F1⟩ := n2 hg
        have RR1 := RR
        have K1 := K
        obtain ⟨M2, b1, R2, G2⟩ := R_add_new RR1 K1 hl12 (au := au) hp hper ht hrz hl htk
        obtain ⟨m1, m2, m3, m4⟩ := add_new_money W h hp hq hper hpe.2 hl htk hau.1 hg
        refine ⟨(L.length : Int), M1, M2, _, _, hk2.trans a1, ?_, F1, G2, R1, R2, m2, m1, by omega, m3, m4, fun q => by omega, fun q z => ?_, fun _ => hpo⟩
        · rw [hr2 Mr RR1, if_neg (by omega), (R_add_look RR1 K1 hp hper ht hrz hl htk au (-1)).2 hg.2, if_neg (by omega)]
          exact b1
        · unfold dep
          rw [sumL_app]
          show _ ≤ _ + (dpf q z (nst per p lo hi au l) + 0)
          have : 0 ≤ dpf q z (nst per p lo hi au l) := by
            unfold dpf
            split
            · show 0 ≤ l; omega
            · omega
          omega
      · obtain ⟨M1, a1, R1, F1⟩ := n1 hg
        have RR1 := RR
        have K1 := K
        refine hno M1 F1 R1 (hk2.trans a1) ?_
        rw [hr2 Mr RR1, if_neg (by omega)]
        exact (R_add_look RR1 K1 hp hper ht hrz hl htk au (-1)).1 (fun q => hg ⟨by omega, q⟩)
  · have hi12 : i < 12 := by omega
    have hne : ¬ (i : Int) = -1 := by omega
    have hs := W.2.2 _ (getD_mem hi')
    rw [hf, if_neg hne, h85 i i hi12] at hk2
    replace hr2 : ∀ M1, RepR M1 N T L th pe po → g_X12_adds per p lo hi au l M1 = ((g_X12_ofStake i 5 M1).bind fun q89 => (if (w64 (q89.1 + l)) ≤ 999999 then (g_X12_adds_105 per p lo hi au l i q89.2) else some (-1, q89.2))) := fun M1 RR1 => by rw [hr2 M1 RR1, hf, if_pos (by omega)]
    have h113 : g_X2_addStake_113 78 per p lo hi au l (78 + 2 + 2 + 5 * p) i i (zR M (78 + 3) i) M = g_X2_addStake_131 78 per l (78 + 2 + 2 + 5 * p) i i (zR M (78 + 3) i) M := by
      unfold g_X2_addStake_113
      rw [if_neg hne]
    rw [h113] at hk2
    obtain ⟨n1, n2⟩ := K_add_found b78 R W h.hU hi' hp hq hper hl
    have o5 : ∀ M1, RepR M1 N T L th pe po → g_X12_ofStake i 5 M1 = some (L.getD i d0 5, M1) := fun M1 RR1 => R_stk RR1 hi' (by omega) (by omega)
    have w5 : w64 (L.getD i d0 5 + l) = L.getD i d0 5 + l := w64_id (by have := hs.2.2.2.2.1; omega) (by have := hs.2.2.2.2.1; omega)
    by_cases hg : adG N T p per l (L.getD i d0 2) (L.getD i d0 3) (L.getD i d0 5)
    · obtain ⟨M1, a1, R1, F1⟩ := n2 hg
      have RR1 := RR
      have K1 := K
      obtain ⟨m1, m2, m3, m4⟩ := add_found_money W h hD hi' hp hq hper e1 hl hg
      obtain ⟨M2, b1, R2, G2⟩ := R_add_end RR1 K1 hi' hp hper ht hrz hl htk (by have := hs.2.2.2.2.1; omega)
      have hg' := hg
      unfold adG at hg'
      rw [e2, e3] at hg'
      rw [e2, e3] at m1 m2 m3 m4 R1
      refine ⟨(i : Int), M1, M2, _, _, hk2.trans a1, ?_, F1, G2, R1, R2, m2, m1, by omega, m3, m4, fun q => by omega, fun q z => ?_, fun _ => hpo⟩
      · rw [hr2 Mr RR1, o5 Mr RR1]
        simp only [bindS]
        rw [w5, if_pos hg'.1, (R_add_look RR1 K1 hp hper ht hrz hl htk au i).2 hg'.2, if_pos (by omega)]
        exact b1
      · have key : ∀ (L : List (Nat → Int)) (i : Nat), i < L.length → ∀ x : Nat → Int, dep (L.set i x) q z = dep L q z - dpf q z (L.getD i d0) + dpf q z x := by
          intro L
          induction L with
          | nil => intro i hi; cases hi
          | cons s l ih =>
            intro i hi x
            cases i with
            | zero => show dpf q z x + sumL (dpf q z) l = dpf q z s + sumL (dpf q z) l - dpf q z s + dpf q z x; omega
            | succ j =>
              have := ih j (by simpa using hi) x
              unfold dep at this
              show dpf q z s + sumL (dpf q z) (l.set j x) = dpf q z s + sumL (dpf q z) l - dpf q z (l.getD j d0) + dpf q z x
              omega
        rw [key L i hi']
        have : dpf q z (L.getD i d0) ≤ dpf q z (ud (stl (L.getD i d0)) 5 (L.getD i d0 5 + l)) := by
          have x1 : ud (stl (L.getD i d0)) 5 (L.getD i d0 5 + l) 1 = L.getD i d0 1 := rfl
          have x2 : ud (stl (L.getD i d0)) 5 (L.getD i d0 5 + l) 2 = L.getD i d0 2 := rfl
          have x3 : ud (stl (L.getD i d0)) 5 (L.getD i d0 5 + l) 3 = L.getD i d0 3 := rfl
          have x5 : ud (stl (L.getD i d0)) 5 (L.getD i d0 5 + l) 5 = L.getD i d0 5 + l := rfl
          unfold dpf
          rw [x1, x2, x3, x5]
          split <;> omega
        omega
    · refine hno M FrB.rfl R (hk2.trans (n1 hg)) ?_
      rw [hr2 Mr RR, o5 Mr RR]
      simp only [bindS]
      rw [w5]
      unfold adG at hg
      rw [e2, e3] at hg
      split
      · exact (R_add_look RR K hp hper ht hrz hl htk au i).1 (fun q => hg ⟨by assumption, q⟩)
      · rfl
