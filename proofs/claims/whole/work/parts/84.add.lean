/-! add -/
section AM
variable {D : Nat → Nat → Int} {N T : Nat → Int} {L : List (Nat → Int)} {th pe po : Int}
theorem add_money (W : WF N T L th pe po) (h : MnyD D N T L po) {p per : Nat} (hp : p < 5) (hq : (p : Int) < po) (hper : per < 4) {l lo hi cur : Int} (hl : 1 ≤ l ∧ l ≤ 99999) (htk : 0 ≤ lo ∧ lo < hi ∧ hi ≤ 40) (hg : adG N T p per l lo hi cur) {L' : List (Nat → Int)} (hL' : ∀ x, x ∈ L' → Sok pe po x) (h4' : ∀ x, x ∈ L' → ∀ w, 6 ≤ w → w < 10 → 0 ≤ x w)
    (hs : ∀ k, k < 2 → sumR (claimX p k (N (22 + 23 * p)) (N (22 + 23 * p + 1))) L' ≤ sumR (claimX p k (N (22 + 23 * p)) (N (22 + 23 * p + 1))) L + (l : Rat) * uX k (N (22 + 23 * p)) (N (22 + 23 * p + 1)) lo hi)
    (ho : ∀ q k : Nat, q < 5 → (q : Int) < po → q ≠ p → k < 2 → sumR (claimX q k (N (22 + 23 * q)) (N (22 + 23 * q + 1))) L' ≤ sumR (claimX q k (N (22 + 23 * q)) (N (22 + 23 * q + 1))) L) (hpo : 2 ≤ th ∧ th ≤ 5) (hpe : 1 ≤ pe ∧ pe ≤ 4) (hpo2 : 0 ≤ po ∧ po ≤ 5) :
    MnyD D (adN N T p per l lo hi) T L' po ∧ WF (adN N T p per l lo hi) T L' th pe po ∧ (∀ j, j < 2 → adN N T p per l lo hi j = N j) ∧ (∀ q w, w < 23 → (w < 2 ∨ 4 ≤ w) → adN N T p per l lo hi (22 + 23 * q + w) = N (22 + 23 * q + w)) := by
  have ht := W.t2 hp hq
  have hrz : Rzz (N (22 + 23 * p)) (N (22 + 23 * p + 1)) := (W.2.1 p hp hq).2
  have q0 : (l : Rat) * uX 0 (N (22 + 23 * p)) (N (22 + 23 * p + 1)) lo hi ≤ ((lie (N (22 + 23 * p)) (N (22 + 23 * p + 1)) l lo hi 0 1 : Int) : Rat) := lie_hi hrz (by omega) htk (k := 0) (by omega)
  have q1 : (l : Rat) * uX 1 (N (22 + 23 * p)) (N (22 + 23 * p + 1)) lo hi ≤ ((lie (N (22 + 23 * p)) (N (22 + 23 * p + 1)) l lo hi 1 1 : Int) : Rat) := lie_hi hrz (by omega) htk (k := 1) (by omega)
  have p0 := lie_nn hrz (l := l) (by omega) htk 0 1
  have p1 := lie_nn hrz (l := l) (by omega) htk 1 1
  have S0 := (h.2.1 p 0 hp hq (by omega))
  have S1 := (h.2.1 p 1 hp hq (by omega))
  have S0' := S0.2.2
  have S1' := S1.2.2
  unfold SolvD at S0' S1'
  have k0 := hs 0 (by omega)
  have k1 := hs 1 (by omega)
  unfold adG at hg
  unfold adN
  generalize lie (N (22 + 23 * p)) (N (22 + 23 * p + 1)) l lo hi 0 1 = x0 at *
  generalize lie (N (22 + 23 * p)) (N (22 + 23 * p + 1)) l lo hi 1 1 = x1 at *
  have hcells : ∀ (a b : Int) q w, w < 23 → (w < 2 ∨ 4 ≤ w) → gO2 N T p per a b (22 + 23 * q + w) = N (22 + 23 * q + w) := fun a b q w hw hw2 => gO2_rz hper ht.1 ht.2.1 q hw hw2
  refine ⟨Mny_gO2 h hp hq hper ht (by omega) (by omega) ?_ ?_ ?_ ?_ ho h4', ⟨Or.inr ⟨hpo, hpe, hpo2⟩, fun q hq5 hqo => ⟨(W.2.1 q hq5 hqo).1, ?_⟩, hL'⟩, fun j hj => gO2_lo hj, hcells _ _⟩
  · have : 0 ≤ N (hc p 0) := S0.2.1
    omega
  · have : 0 ≤ N (hc p 1) := S1.2.1
    omega
  · rw [Rat.intCast_neg]
    grind
  · rw [Rat.intCast_neg]
    grind
  · have := (W.2.1 q hq5 hqo).2
    unfold Rz at *
    have e0 := hcells (-x0) (-x1) q 0 (by omega) (by omega)
    rw [Nat.add_zero] at e0
    rw [e0, hcells _ _ q 1 (by omega) (by omega)]
    exact this
theorem add_found_money (W : WF N T L th pe po) (h : MnyD D N T L po) (hD : ∀ p k, D p k ≤ 39999996) {i p per : Nat} (hi : i < L.length) (hp : p < 5) (hq : (p : Int) < po) (hper : per < 4) (ep : L.getD i d0 1 = p) {l : Int} (hl : 1 ≤ l ∧ l ≤ 99999) (hg : adG N T p per l (L.getD i d0 2) (L.getD i d0 3) (L.getD i d0 5)) :
    MnyD D (adN N T p per l (L.getD i d0 2) (L.getD i d0 3)) T (L.set i (ud (stl (L.getD i d0)) 5 (L.getD i d0 5 + l))) po ∧ WF (adN N T p per l (L.getD i d0 2) (L.getD i d0 3)) T (L.set i (ud (stl (L.getD i d0)) 5 (L.getD i d0 5 + l))) th pe po ∧ (∀ j, j < 2 → adN N T p per l (L.getD i d0 2) (L.getD i d0 3) j = N j) ∧ (∀ q w, w < 23 → (w < 2 ∨ 4 ≤ w) → adN N T p per l (L.getD i d0 2) (L.getD i d0 3) (22 + 23 * q + w) = N (22 + 23 * q + w)) := by
  have hz := W.len hi
  have hs := W.2.2 _ (getD_mem hi)
  have hmem := getD_mem hi
  have hset := fun (f : (Nat → Int) → Rat) x => sumR_set (f := f) hi x
  have ht := W.t2 hp hq
  have hrz : Rzz (N (22 + 23 * p)) (N (22 + 23 * p + 1)) := (W.2.1 p hp hq).2
  generalize es : L.getD i d0 = s at *
  have o0 := owd_ok W.2.2 h hD hp hq (k := 0) (by omega) ht.1 hrz hmem ep
  have o1 := owd_ok W.2.2 h hD hp hq (k := 1) (by omega) ht.2.1 hrz hmem ep
  have hok : Sok pe po (ud (stl s) 5 (s 5 + l)) := stl_ok hs (by have := hs.2.2.2.2.1; have := hg.1; omega)
  refine add_money W h hp hq hper hl hs.2.2.1 hg (fun x hx => ?_) (fun x hx w w6 w10 => ?_) (fun k hk => ?_) (fun q k hq5 hqo hqp hk => ?_) hz.1 hz.2.1 hz.2.2
  · rcases mem_set hx with e | e
    · exact W.2.2 x e
    · subst e; exact hok
  · rcases mem_set hx with e | e
    · exact h.2.2.2 x e w w6 w10
    · subst e
      rw [ud_ne (by omega), stl_at]
      split
      · omega
      · split
        · exact o0.1
        · split
          · exact o1.1
          · omega
  · have cl : claimX p k (N (22 + 23 * p)) (N (22 + 23 * p + 1)) s = oweX k s + (s 5 : Rat) * uX k (N (22 + 23 * p)) (N (22 + 23 * p + 1)) (s 2) (s 3) := if_pos ep
    have cl' : claimX p k (N (22 + 23 * p)) (N (22 + 23 * p + 1)) (ud (stl s) 5 (s 5 + l)) = oweX k (ud (stl s) 5 (s 5 + l)) + ((s 5 + l : Int) : Rat) * uX k (N (22 + 23 * p)) (N (22 + 23 * p + 1)) (s 2) (s 3) := if_pos ep
    have ow : ((owd s k : Int) : Rat) ≤ oweX k s := by
      have : k = 0 ∨ k = 1 := by omega
      rcases this with rfl | rfl
      · exact o0.2.2
      · exact o1.2.2
    rw [hset, cl, cl', oweX_stl s _ hk, Rat.intCast_add]
    grind
  · have x1 : claimX q k (N (22 + 23 * q)) (N (22 + 23 * q + 1)) s = 0 := if_neg (by omega)
    have x2 : claimX q k (N (22 + 23 * q)) (N (22 + 23 * q + 1)) (ud (stl s) 5 (s 5 + l)) = 0 := if_neg (by show ¬ s 1 = (q : Int); omega)
    rw [hset, x1, x2]
    grind
theorem nst_ok {p per : Nat} {lo hi au l : Int} (hper : (per : Int) < pe) (hq : (p : Int) < po) (hp : p < 5) (hpe : pe ≤ 4) (htk : 0 ≤ lo ∧ lo < hi ∧ hi ≤ 40) (hau : 0 ≤ au ∧ au ≤ 2) (hl : 1 ≤ l ∧ l ≤ 99999) : Sok pe po (nst per p lo hi au l) := by
  refine ⟨⟨by show (0 : Int) ≤ (per : Int); omega, hper⟩, ⟨by show (0 : Int) ≤ (p : Int); omega, hq⟩, htk, hau, ⟨hl.1, by show l ≤ 999999; omega⟩, fun w => ?_⟩
  unfold nst
  repeat' split
  all_goals first | exact w64_id (by omega) (by omega)
theorem add_new_money (W : WF N T L th pe po) (h : MnyD D N T L po) {p per : Nat} (hp : p < 5) (hq : (p : Int) < po) (hper : per < 4) (hper2 : (per : Int) < pe) {l lo hi au : Int} (hl : 1 ≤ l ∧ l ≤ 99999) (htk : 0 ≤ lo ∧ lo < hi ∧ hi ≤ 40) (hau : 0 ≤ au ∧ au ≤ 2) (hg : adG N T p per l lo hi 0) :
    MnyD D (adN N T p per l lo hi) T (L ++ [nst per p lo hi au l]) po ∧ WF (adN N T p per l lo hi) T (L ++ [nst per p lo hi au l]) th pe po ∧ (∀ j, j < 2 → adN N T p per l lo hi j = N j) ∧ (∀ q w, w < 23 → (w < 2 ∨ 4 ≤ w) → adN N T p per l lo hi (22 + 23 * q + w) = N (22 + 23 * q + w)) := by
  have hz : (2 ≤ th ∧ th ≤ 5) ∧ (1 ≤ pe ∧ pe ≤ 4) ∧ (0 ≤ po ∧ po ≤ 5) := by
    rcases W.1 with ⟨_, _, e, _⟩ | h
    · omega
    · exact h
  have hok : Sok pe po (nst per p lo hi au l) := nst_ok hper2 hq hp (by omega) htk hau hl
  refine add_money W h hp hq hper hl htk hg (fun x hx => ?_) (fun x hx w w6 w10 => ?_) (fun k hk => ?_) (fun q k hq5 hqo hqp hk => ?_) hz.1 hz.2.1 hz.2.2
  · rcases List.mem_append.mp hx with e | e
    · exact W.2.2 x e
    · rw [List.mem_singleton] at e; subst e; exact hok
  · rcases List.mem_append.mp hx with e | e
    · exact h.2.2.2 x e w w6 w10
    · rw [List.mem_singleton] at e; subst e
      unfold nst
      rw [if_neg (by omega), if_neg (by omega), if_neg (by omega), if_neg (by omega), if_neg (by omega), if_neg (by omega)]
      omega
  · have cl' : claimX p k (N (22 + 23 * p)) (N (22 + 23 * p + 1)) (nst per p lo hi au l) = oweX k (nst per p lo hi au l) + (l : Rat) * uX k (N (22 + 23 * p)) (N (22 + 23 * p + 1)) lo hi := if_pos rfl
    have ow : oweX k (nst per p lo hi au l) = 0 := by
      have : k = 0 ∨ k = 1 := by omega
      rcases this with rfl | rfl
      · show ((0 : Int) : Rat) + (l : Rat) * ((0 : Int) : Rat) / 1048576 = 0
        rw [Rat.intCast_zero]; grind
      · show ((0 : Int) : Rat) + (l : Rat) * ((0 : Int) : Rat) / 1048576 = 0
        rw [Rat.intCast_zero]; grind
    rw [sumR_app]
    show _ + (claimX p k _ _ (nst per p lo hi au l) + 0) ≤ _
    rw [cl', ow]
    grind
  · have x2 : claimX q k (N (22 + 23 * q)) (N (22 + 23 * q + 1)) (nst per p lo hi au l) = 0 := if_neg (by show ¬ (p : Int) = (q : Int); omega)
    rw [sumR_app]
    show _ + (claimX q k _ _ (nst per p lo hi au l) + 0) ≤ _
    rw [x2]
    grind
theorem MnyD.hU (h : MnyD D N T L po) : ∀ j, j < 20 → 0 ≤ N (2 + j) ∧ N (2 + j) ≤ 39999996 := by
  intro j hj
  refine ⟨h.1 j hj, ?_⟩
  have := h.bu (per := j / 5) (t := j % 5) (by omega) (by omega)
  rw [show 5 * (j / 5) + j % 5 = j by omega] at this
  exact this
end AM
/-- adding, both halves together, at any time of a bundle too -/
theorem add_both {D : Nat → Nat → Int} {M : MZ} {N T : Nat → Int} {L : List (Nat → Int)} {th pe po : Int} {kk : Bool} (R : Rep kk M 78 N T L th pe po) (RR : RepR M N T L th pe po) (K : KON M) (W : WF N T L th pe po) (h : MnyD D N T L po) (hD : ∀ p k, D p k ≤ 39999996) (per p lo hi au l : Int) : ∃ (r : Int) (M1 M2 : MZ) (N' : Nat → Int) (L' : List (Nat → Int)), g_X2_addStake 78 per p lo hi au l M = some (r, M1) ∧ g_X12_adds per p lo hi au l M1 = some (r, M2) ∧ FrB 78 M M1 ∧ Fr23 M1 M2 ∧ Rep kk M1 78 N' T L' th pe po ∧ RepR M2 N' T L' th pe po ∧ WF N' T L' th pe po ∧ MnyD D N' T L' po ∧ (-1 ≤ r ∧ r ≤ 12) ∧ (∀ j, j < 2 → N' j = N j) ∧ (∀ q w, w < 23 → (w < 2 ∨ 4 ≤ w) → N' (22 + 23 * q + w) = N (22 + 23 * q + w)) ∧ (r = -1 → N' = N ∧ L' = L) ∧ (∀ q z, dep L q z ≤ dep L' q z) ∧ (r ≠ -1 → 0 ≤ p ∧ p < po) := by
  have hz := W.1.r
  have h12 := R.2.2.2.2.2.2
  have hno : ∀ M1 : MZ, FrB 78 M M1 → Rep kk M1 78 N T L th pe po → g_X2_addStake 78 per p lo hi au l M = some (-1, M1) → g_X12_adds per p lo hi au l M1 = some (-1, M1) → ∃ (r : Int) (M1 M2 : MZ) (N' : Nat → Int) (L' : List (Nat → Int)), g_X2_addStake 78 per p lo hi au l M = some (r, M1) ∧ g_X12_adds per p lo hi au l M1 = some (r, M2) ∧ FrB 78 M M1 ∧ Fr23 M1 M2 ∧ Rep kk M1 78 N' T L' th pe po ∧ RepR M2 N' T L' th pe po ∧ WF N' T L' th pe po ∧ MnyD D N' T L' po ∧ (-1 ≤ r ∧ r ≤ 12) ∧ (∀ j, j < 2 → N' j = N j) ∧ (∀ q w, w < 23 → (w < 2 ∨ 4 ≤ w) → N' (22 + 23 * q + w) = N (22 + 23 * q + w)) ∧ (r = -1 → N' = N ∧ L' = L) ∧ (∀ q z, dep L q z ≤ dep L' q z) ∧ (r ≠ -1 → 0 ≤ p ∧ p < po) := by
    intro M1 F R1 a1 a2
    exact ⟨-1, M1, M1, N, L, a1, a2, F, Fr23.rfl, R1, RR_of F RR, W, h, by omega, fun _ _ => rfl, fun _ _ _ _ => rfl, fun _ => ⟨rfl, rfl⟩, fun _ _ => Int.le_refl _, fun q => absurd rfl q⟩
  have c78 : kd 78 = (1, 9) := kdb b78
  have hk1 : g_X2_addStake 78 per p lo hi au l M = ((g_X2_poolAt 78 p M).bind fun q2 => (if q2.1 = 0 then some (-1, q2.2) else ((g_X2_hasPerson 78 per q2.2).bind fun q14 => (if q14.1 = 0 then some (-1, q14.2) else (if au < 0 then some (-1, q14.2) else (if 2 < au then some (-1, q14.2) else ((g_X2_isRange q2.1 lo hi q14.2).bind fun q36 => (if q36.1 = 0 then some (-1, q36.2) else (if l < 1 then some (-1, q36.2) else (if l ≤ 99999 then ((g_X2_findStake 78 per p lo hi au q36.2).bind fun q65 => (if q65.1 = (-1) then (g_X2_addStake_85 78 per p lo hi au l q2.1 q65.1 (zI q65.2 78 3) q65.2) else (g_X2_addStake_85 78 per p lo hi au l q2.1 q65.1 q65.1 q65.2))) else some (-1, q36.2)))))))))))  := by
    unfold g_X2_addStake g_X2_addStake_55
    rw [if_pos c78]
  have hr1 : ∀ M1, g_X12_adds per p lo hi au l M1 = ((g_X12_isPerson per M1).bind fun q2 => (if q2.1 = 0 then some (-1, q2.2) else ((g_X12_isPool p q2.2).bind fun q10 => (if q10.1 = 0 then some (-1, q10.2) else ((g_X12_areTicks p lo hi q10.2).bind fun q21 => (if q21.1 = 0 then some (-1, q21.2) else ((g_X12_isIn au 0 2 q21.2).bind fun q34 => (if q34.1 = 0 then some (-1, q34.2) else ((g_X12_isIn l 1 99999 q34.2).bind fun q47 => (if q47.1 = 0 then some (-1, q47.2) else ((g_X12_stakeOf per p lo hi au q47.2).bind fun q63 => (if 0 ≤ q63.1 then ((g_X12_ofStake q63.1 5 q63.2).bind fun q89 => (if (w64 (q89.1 + l)) ≤ 999999 then (g_X12_adds_105 per p lo hi au l q63.1 q89.2) else some (-1, q89.2))) else ((g_X12_stakes q63.2).bind fun q74 => (if q74.1 = 12 then some (-1, q74.2) else (g_X12_adds_105 per p lo hi au l q63.1 q74.2))))))))))))))) := fun _ => rfl
  by_cases hpo : 0 ≤ p ∧ p < po
  case neg =>
    refine hno M FrB.rfl R ?_ ?_
    · rw [hk1, K_poolAt_n b78 (by rw [R.1.2.2.1]; exact hpo)]
      simp only [bindS]
      rw [if_pos trivial]
    · rw [hr1, R_isPerson]
      simp only [bindS, R_isPool, bI_0]
      rw [RR.1.2.2, if_pos hpo, ite_self]
  obtain ⟨p, rfl⟩ := zR_nat hpo.1
  have hp : p < 5 := by omega
  have hq := hpo.2
  have ht := W.t2 hp hq
  have hrz : Rzz (N (22 + 23 * p)) (N (22 + 23 * p + 1)) := (W.2.1 p hp hq).2
  by_cases hpe : 0 ≤ per ∧ per < pe
  case neg =>
    refine hno M FrB.rfl R ?_ ?_
    · rw [hk1, K_poolAt_y b78 hp (by rw [R.1.2.2.1]; exact hq)]
      simp only [bindS, K_hasPerson b78, bI_0]
      rw [if_neg (by omega), R.1.2.1, if_pos hpe]
    · rw [hr1, R_isPerson, RR.1.2.1]
      simp only [bindS, bI_0]
      rw [if_pos hpe]
  obtain ⟨per, rfl⟩ := zR_nat hpe.1
  have hper : per < 4 := by omega
  have dec : Decidable (rgo (T (5 * p + 4)) lo hi) := Classical.propDecidable _
  by_cases hrg : rgo (T (5 * p + 4)) lo hi
  case neg =>
    refine hno M FrB.rfl R ?_ ?_
    · rw [hk1, K_poolAt_y b78 hp (by rw [R.1.2.2.1]; exact hq)]
      simp only [bindS, K_hasPerson b78, bI_0, K_range b78 R W hp hq]
      rw [if_neg (by omega), R.1.2.1, if_neg (fun q => q hpe), if_pos hrg, ite_self, ite_self]
    · rw [hr1, R_isPerson, RR.1.2.1]
      simp only [bindS, bI_0, R_isPool, R_range RR W hp hq]
      rw [if_neg (fun q => q hpe), RR.1.2.2, if_neg (fun q => q hpo), if_pos hrg]
  by_cases hau : (0 ≤ au ∧ au ≤ 2) ∧ (1 ≤ l ∧ l ≤ 99999)
  case neg =>
    refine hno M FrB.rfl R ?_ ?_
    · rw [hk1, K_poolAt_y b78 hp (by rw [R.1.2.2.1]; exact hq)]
      simp only [bindS, K_hasPerson b78, bI_0, K_range b78 R W hp hq]
      rw [if_neg (by omega), R.1.2.1, if_neg (fun q => q hpe)]
      by_cases c1 : au < 0
      · rw [if_pos c1]
      · rw [if_neg c1]
        by_cases c2 : 2 < au
        · rw [if_pos c2]
        · rw [if_neg c2, if_neg (show ¬ ¬ rgo (T (5 * p + 4)) lo hi from fun q => q hrg)]
          by_cases c3 : l < 1
          · rw [if_pos c3]
          · rw [if_neg c3, if_neg (by omega)]
    · rw [hr1, R_isPerson, RR.1.2.1]
      simp only [bindS, bI_0, R_isPool, R_range RR W hp hq, R_isIn]
      rw [if_neg (fun q => q hpe), RR.1.2.2, if_neg (fun q => q hpo), if_neg (fun q => q hrg)]
      by_cases c1 : 0 ≤ au ∧ au ≤ 2
      · rw [if_neg (fun q => q c1), if_pos (by omega)]
      · rw [if_pos c1]
  have hl := hau.2
  have htk : 0 ≤ lo ∧ lo < hi ∧ hi ≤ 40 := by unfold rgo at hrg; omega
  have hk2 : g_X2_addStake 78 per p lo hi au l M = (if fnd L per p lo hi au = (-1) then (g_X2_addStake_85 78 per p lo hi au l (78 + 2 + 2 + 5 * p) (fnd L per p lo hi au) L.length M) else (g_X2_addStake_85 78 per p lo hi au l (78 + 2 + 2 + 5 * p) (fnd L per p lo hi au) (fnd L per p lo hi au) M)) := by
    rw [hk1, K_poolAt_y b78 hp (by rw [R.1.2.2.1]; exact hq)]
    simp only [bindS, K_hasPerson b78, bI_0, K_range b78 R W hp hq, K_find b78 R]
    rw [if_neg (by omega), R.1.2.1, if_neg (fun q => q hpe), if_neg (by omega), if_neg (by omega), if_neg (fun q => q hrg), if_neg (by omega), if_pos (by omega), R.1.2.2.2.1]
  have hr2 : ∀ M1, RepR M1 N T L th pe po → g_X12_adds per p lo hi au l M1 = (if 0 ≤ fnd L per p lo hi au then ((g_X12_ofStake (fnd L per p lo hi au) 5 M1).bind fun q89 => (if (w64 (q89.1 + l)) ≤ 999999 then (g_X12_adds_105 per p lo hi au l (fnd L per p lo hi au) q89.2) else some (-1, q89.2))) else (if (L.length : Int) = 12 then some (-1, M1) else (g_X12_adds_105 per p lo hi au l (fnd L per p lo hi au) M1))) := by
    intro M1 RR1
    rw [hr1, R_isPerson, RR1.1.2.1]
    simp only [bindS, bI_0, R_isPool, R_range RR1 W hp hq, R_isIn, R_find RR1, R_stakes RR1]
    rw [if_neg (fun q => q hpe), RR1.1.2.2, if_neg (fun q => q hpo), if_neg (fun q => q hrg), if_neg (fun q => q hau.1), if_neg (fun q => q hau.2)]
  have h85 : ∀ (fd : Int) (i : Nat), i < 12 → g_X2_addStake_85 78 per p lo hi au l (78 + 2 + 2 + 5 * p) fd i M = g_X2_addStake_113 78 per p lo hi au l (78 + 2 + 2 + 5 * p) fd i (zR M (78 + 3) i) M := by
    intro fd i hi12
    unfold g_X2_addStake_85 g_X2_addStake_102
    rw [if_neg (by omega), if_pos c78, if_pos (by omega), if_pos (by omega), Int.toNat_natCast]
  rcases fnd_r L per p lo hi au with hf | ⟨i, hi', hf, e0, e1, e2, e3, e4⟩
  · rw [hf, if_pos rfl] at hk2
    replace hr2 : ∀ M1, RepR M1 N T L th pe po → g_X12_adds per p lo hi au l M1 = (if (L.length : Int) = 12 then some (-1, M1) else (g_X12_adds_105 per p lo hi au l (-1) M1)) := fun M1 RR1 => by rw [hr2 M1 RR1, hf, if_neg (by omega)]
    by_cases hlen : L.length = 12
    · refine hno M FrB.rfl R ?_ ?_
      · rw [hk2]
        unfold g_X2_addStake_85 g_X2_addStake_102
        rw [if_neg (by omega), if_pos c78, if_neg (by omega)]
      · rw [hr2 M RR, if_pos (by omega)]
    · have hl12 : L.length < 12 := by omega
      rw [h85 (-1) L.length hl12] at hk2
      obtain ⟨n1, n2⟩ := K_add_new b78 R W h.hU hl12 (au := au) hp hq hper hl htk
      by_cases hg : adG N T p per l lo hi 0
      · obtain ⟨M1, a1, R1, F1⟩ := n2 hg
        have RR1 := RR_of F1 RR
        have K1 := K_of F1 K
        obtain ⟨M2, b1, R2, G2⟩ := R_add_new RR1 K1 hl12 (au := au) hp hper ht hrz hl htk
        obtain ⟨m1, m2, m3, m4⟩ := add_new_money W h hp hq hper hpe.2 hl htk hau.1 hg
        refine ⟨(L.length : Int), M1, M2, _, _, hk2.trans a1, ?_, F1, G2, R1, R2, m2, m1, by omega, m3, m4, fun q => by omega, fun q z => ?_, fun _ => hpo⟩
        · rw [hr2 M1 RR1, if_neg (by omega), (R_add_look RR1 K1 hp hper ht hrz hl htk au (-1)).2 hg.2, if_neg (by omega)]
          exact b1
        · unfold dep
          rw [sumL_app]
          show _ ≤ _ + (dpf q z (nst per p lo hi au l) + 0)
          have : 0 ≤ dpf q z (nst per p lo hi au l) := by
            unfold dpf
            split
            · show 0 ≤ l; omega
            · omega
          omega
      · obtain ⟨M1, a1, R1, F1⟩ := n1 hg
        have RR1 := RR_of F1 RR
        have K1 := K_of F1 K
        refine hno M1 F1 R1 (hk2.trans a1) ?_
        rw [hr2 M1 RR1, if_neg (by omega)]
        exact (R_add_look RR1 K1 hp hper ht hrz hl htk au (-1)).1 (fun q => hg ⟨by omega, q⟩)
  · have hi12 : i < 12 := by omega
    have hne : ¬ (i : Int) = -1 := by omega
    have hs := W.2.2 _ (getD_mem hi')
    rw [hf, if_neg hne, h85 i i hi12] at hk2
    replace hr2 : ∀ M1, RepR M1 N T L th pe po → g_X12_adds per p lo hi au l M1 = ((g_X12_ofStake i 5 M1).bind fun q89 => (if (w64 (q89.1 + l)) ≤ 999999 then (g_X12_adds_105 per p lo hi au l i q89.2) else some (-1, q89.2))) := fun M1 RR1 => by rw [hr2 M1 RR1, hf, if_pos (by omega)]
    have h113 : g_X2_addStake_113 78 per p lo hi au l (78 + 2 + 2 + 5 * p) i i (zR M (78 + 3) i) M = g_X2_addStake_131 78 per l (78 + 2 + 2 + 5 * p) i i (zR M (78 + 3) i) M := by
      unfold g_X2_addStake_113
      rw [if_neg hne]
    rw [h113] at hk2
    obtain ⟨n1, n2⟩ := K_add_found b78 R W h.hU hi' hp hq hper hl
    have o5 : ∀ M1, RepR M1 N T L th pe po → g_X12_ofStake i 5 M1 = some (L.getD i d0 5, M1) := fun M1 RR1 => R_stk RR1 hi' (by omega) (by omega)
    have w5 : w64 (L.getD i d0 5 + l) = L.getD i d0 5 + l := w64_id (by have := hs.2.2.2.2.1; omega) (by have := hs.2.2.2.2.1; omega)
    by_cases hg : adG N T p per l (L.getD i d0 2) (L.getD i d0 3) (L.getD i d0 5)
    · obtain ⟨M1, a1, R1, F1⟩ := n2 hg
      have RR1 := RR_of F1 RR
      have K1 := K_of F1 K
      obtain ⟨m1, m2, m3, m4⟩ := add_found_money W h hD hi' hp hq hper e1 hl hg
      obtain ⟨M2, b1, R2, G2⟩ := R_add_end RR1 K1 hi' hp hper ht hrz hl htk (by have := hs.2.2.2.2.1; omega)
      have hg' := hg
      unfold adG at hg'
      rw [e2, e3] at hg'
      rw [e2, e3] at m1 m2 m3 m4 R1
      refine ⟨(i : Int), M1, M2, _, _, hk2.trans a1, ?_, F1, G2, R1, R2, m2, m1, by omega, m3, m4, fun q => by omega, fun q z => ?_, fun _ => hpo⟩
      · rw [hr2 M1 RR1, o5 M1 RR1]
        simp only [bindS]
        rw [w5, if_pos hg'.1, (R_add_look RR1 K1 hp hper ht hrz hl htk au i).2 hg'.2, if_pos (by omega)]
        exact b1
      · have key : ∀ (L : List (Nat → Int)) (i : Nat), i < L.length → ∀ x : Nat → Int, dep (L.set i x) q z = dep L q z - dpf q z (L.getD i d0) + dpf q z x := by
          intro L
          induction L with
          | nil => intro i hi; cases hi
          | cons s l ih =>
            intro i hi x
            cases i with
            | zero => show dpf q z x + sumL (dpf q z) l = dpf q z s + sumL (dpf q z) l - dpf q z s + dpf q z x; omega
            | succ j =>
              have := ih j (by simpa using hi) x
              unfold dep at this
              show dpf q z s + sumL (dpf q z) (l.set j x) = dpf q z s + sumL (dpf q z) l - dpf q z (l.getD j d0) + dpf q z x
              omega
        rw [key L i hi']
        have : dpf q z (L.getD i d0) ≤ dpf q z (ud (stl (L.getD i d0)) 5 (L.getD i d0 5 + l)) := by
          have x1 : ud (stl (L.getD i d0)) 5 (L.getD i d0 5 + l) 1 = L.getD i d0 1 := rfl
          have x2 : ud (stl (L.getD i d0)) 5 (L.getD i d0 5 + l) 2 = L.getD i d0 2 := rfl
          have x3 : ud (stl (L.getD i d0)) 5 (L.getD i d0 5 + l) 3 = L.getD i d0 3 := rfl
          have x5 : ud (stl (L.getD i d0)) 5 (L.getD i d0 5 + l) 5 = L.getD i d0 5 + l := rfl
          unfold dpf
          rw [x1, x2, x3, x5]
          split <;> omega
        omega
    · refine hno M FrB.rfl R (hk2.trans (n1 hg)) ?_
      rw [hr2 M RR, o5 M RR]
      simp only [bindS]
      rw [w5]
      unfold adG at hg
      rw [e2, e3] at hg
      split
      · exact (R_add_look RR K hp hper ht hrz hl htk au i).1 (fun q => hg ⟨by assumption, q⟩)
      · rfl
theorem q_add {M : MZ} (h : IV M) (per p lo hi au l : Int) : ∃ r M1 M2, g_X11_add per p lo hi au l M = some (r, M1) ∧ g_X12_add per p lo hi au l M1 = some (r, M2) ∧ IV M2 := by
  obtain ⟨N, T, L, th, pe, po, R, RR, W, hM, hk, ht, hH, K, hA⟩ := h
  obtain ⟨r, M1, M2, N', L', a1, a2, F1, F2, R1, R2, W', hM', _, m3, m4, _⟩ := add_both R RR K W hM (fun _ _ => by show (0 : Int) ≤ _; omega) per p lo hi au l
  refine ⟨r, M1, M2, ?_, ?_, ?_⟩
  · unfold g_X11_add
    rw [a1]
    simp only [bindS]
  · unfold g_X12_add
    rw [a2]
    simp only [bindS]
  · exact IV_mk F1 F2 R1 R2 W' hM' (fun p hp hq => Mrk_cg (m3 0 (by omega)) (fun w w1 w2 => m4 p w w1 (Or.inr w2)) (hk p hp hq)) (by rw [m3 0 (by omega)]; exact ht) hH K hA
theorem ok_add (a b c d e f : Int32) : SO INV (f_X11_add a b c d e f) (f_X12_add a b c d e f) := SO_of (IV := IV) (fun _ => l_X11_add rfl rfl rfl rfl rfl rfl rfl) (fun _ => l_X12_add rfl rfl rfl rfl rfl rfl rfl) (fun _ h => q_add h _ _ _ _ _ _)
