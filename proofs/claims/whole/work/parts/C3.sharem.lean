/-! a fee that is shared: no more than there is -/
theorem cutF_eq {fee c : Int} (hf : 0 ≤ fee ∧ fee ≤ 10000000000) (hc : 0 ≤ c ∧ c ≤ 100) : 0 ≤ cutF fee c ∧ cutF fee c ≤ fee := by
  have m := mulr (a := fee) (b := c) (A := fee) (B := 100) hf.1 (Int.le_refl _) hc.1 hc.2
  unfold cutF
  rw [w64_id (x := fee * c) (by omega) (by omega), Int.tdiv_eq_ediv_of_nonneg m.1]
  have d := fdiv_r (x := fee * c) (y := 100) m.1 (by omega)
  rw [w64_id (by omega) (by omega)]
  refine ⟨d.1, ?_⟩
  have : fee * c / 100 < fee + 1 := by
    rw [Int.ediv_lt_iff_lt_mul (by omega)]
    omega
  omega
theorem gnF_eq {fee cut l : Int} (hf : 0 ≤ fee ∧ fee ≤ 10000000000) (hc : 0 ≤ cut ∧ cut ≤ fee) (hl : 1 ≤ l) : (0 ≤ gnF fee cut l ∧ gnF fee cut l ≤ 10485760000000000) ∧ ((gnF fee cut l : Int) : Rat) * (l : Rat) ≤ ((fee : Rat) - (cut : Rat)) * 1048576 := by
  unfold gnF
  have d := fdiv_r (x := (fee - cut) * 1048576) (y := l) (by omega) (by omega)
  rw [w64_id (x := fee - cut) (by omega) (by omega), w64_id (x := (fee - cut) * 1048576) (by omega) (by omega), Int.tdiv_eq_ediv_of_nonneg (by omega), w64_id (by omega) (by omega)]
  refine ⟨by omega, ?_⟩
  have q := fdiv_q (x := (fee - cut) * 1048576) (y := l) (by omega)
  rw [Rat.intCast_mul (fee - cut), Rat.intCast_sub] at q
  exact q
theorem sum_sh {L : List (Nat → Int)} {p k : Nat} (hk : k < 2) {z0 g r z : Int} (hg : 0 ≤ g ∧ g ≤ 10485760000000000) (hb : ∀ s, s ∈ L → s 1 = p → 0 ≤ s (6 + k) ∧ s (6 + k) ≤ 83886071611392) : sumR (claimX p k r z) (shL L p z0 k g) = sumR (claimX p k r z) L + ((dep L p z0 : Int) : Rat) * (g : Rat) / 1048576 := by
  induction L with
  | nil =>
    show (0 : Rat) = 0 + ((0 : Int) : Rat) * (g : Rat) / 1048576
    grind
  | cons s l ih =>
    have ih' := ih (fun x hx => hb x (List.mem_cons_of_mem _ hx))
    have e1 : sumR (claimX p k r z) (shL (s :: l) p z0 k g) = claimX p k r z (shS p z0 k g s) + sumR (claimX p k r z) (shL l p z0 k g) := rfl
    have e2 : sumR (claimX p k r z) (s :: l) = claimX p k r z s + sumR (claimX p k r z) l := rfl
    have e3 : dep (s :: l) p z0 = dpf p z0 s + dep l p z0 := rfl
    rw [e1, e2, e3, ih', Rat.intCast_add]
    have key : claimX p k r z (shS p z0 k g s) = claimX p k r z s + ((dpf p z0 s : Int) : Rat) * (g : Rat) / 1048576 := by
      unfold claimX
      rw [shS_lo _ _ _ _ _ (by omega), shS_lo _ _ _ _ _ (by omega), shS_lo _ _ _ _ _ (by omega), shS_lo _ _ _ _ _ (by omega)]
      by_cases c : s 1 = p
      · rw [if_pos c, if_pos c]
        have hbs := hb s (List.mem_cons_self ..) c
        unfold oweX shS dpf
        by_cases c2 : s 1 = p ∧ s 2 ≤ z0 ∧ z0 < s 3
        · rw [if_pos c2, if_pos c2, ud_at, ud_ne (by omega), ud_ne (by omega), w64_id (by omega) (by omega), Rat.intCast_add]
          grind
        · rw [if_neg c2, if_neg c2]
          have : ((0 : Int) : Rat) = 0 := rfl
          grind
      · rw [if_neg c, if_neg c]
        unfold dpf
        rw [if_neg (fun q => c q.1)]
        have : ((0 : Int) : Rat) = 0 := rfl
        grind
    rw [key]
    grind
theorem sum_shn {L : List (Nat → Int)} {p k q k' : Nat} {z0 g r z : Int} (hne : q ≠ p ∨ k' ≠ k) (hk : k < 2) (hk' : k' < 2) : sumR (claimX q k' r z) (shL L p z0 k g) = sumR (claimX q k' r z) L := by
  induction L with
  | nil => rfl
  | cons s l ih =>
    have e1 : sumR (claimX q k' r z) (shL (s :: l) p z0 k g) = claimX q k' r z (shS p z0 k g s) + sumR (claimX q k' r z) (shL l p z0 k g) := rfl
    have e2 : sumR (claimX q k' r z) (s :: l) = claimX q k' r z s + sumR (claimX q k' r z) l := rfl
    rw [e1, e2, ih]
    have key : claimX q k' r z (shS p z0 k g s) = claimX q k' r z s := by
      unfold claimX
      rw [shS_lo _ _ _ _ _ (by omega), shS_lo _ _ _ _ _ (by omega), shS_lo _ _ _ _ _ (by omega), shS_lo _ _ _ _ _ (by omega)]
      by_cases c : s 1 = q
      · rw [if_pos c, if_pos c]
        have : oweX k' (shS p z0 k g s) = oweX k' s := by
          unfold oweX shS
          by_cases c2 : s 1 = p ∧ s 2 ≤ z0 ∧ z0 < s 3
          · have : k' ≠ k := by
              rcases hne with w | w
              · exfalso; omega
              · exact w
            rw [if_pos c2, ud_ne (by omega), ud_ne (by omega), ud_ne (by omega)]
          · rw [if_neg c2]
        rw [this]
      · rw [if_neg c, if_neg c]
    rw [key]
section GB
variable {D : Nat → Nat → Int} {N T : Nat → Int} {L : List (Nat → Int)} {th pe po : Int}
theorem gain_b (hL : Lok pe po L) (h : MnyD D N T L po) (hD : ∀ p k, D p k ≤ 39999996) {p k : Nat} (hp : p < 5) (hq : (p : Int) < po) (hk : k < 2) (ht : 0 ≤ T (5 * p + k) ∧ T (5 * p + k) < 5) (hR : Rzz (N (22 + 23 * p)) (N (22 + 23 * p + 1))) {s : Nat → Int} (hs : s ∈ L) (hsp : s 1 = p) : 0 ≤ s (6 + k) ∧ s (6 + k) ≤ 83886071611392 := by
  have hb := h.bp hp hq hk ht
  have hh := h.2.1 p k hp hq hk
  have hn := claim_nn hL h.2.2.2 hR p hk
  have hm := sumR_mem hn hs
  have hS := hh.2.2
  unfold SolvD at hS
  have e : claimX p k (N (22 + 23 * p)) (N (22 + 23 * p + 1)) s = oweX k s + (s 5 : Rat) * uX k (N (22 + 23 * p)) (N (22 + 23 * p + 1)) (s 2) (s 3) := if_pos hsp
  rw [e] at hm
  have hk' := hL s hs
  have d := h.2.2.2 s hs (8 + k) (by omega) (by omega)
  have g := h.2.2.2 s hs (6 + k) (by omega) (by omega)
  have l : 1 ≤ s 5 := by have := hk'.2.2.2.2.1; omega
  have u := uX_nn hR hk'.2.2.1 k
  have m2 := Rat.mul_nonneg (Rat.intCast_nonneg.mpr (show 0 ≤ s 5 by omega)) u
  have c1 := rcast_le hb
  have c2 := rcast_le (hD p k)
  have c3 := Rat.intCast_nonneg.mpr hh.1
  have q1 : oweX k s ≤ 79999992 := by
    have e1 : ((39999996 : Int) : Rat) = 39999996 := rfl
    rw [e1] at c1 c2
    grind
  have d' := Rat.intCast_nonneg.mpr d
  unfold oweX at q1
  have m1 : s (6 + k) ≤ s 5 * s (6 + k) := by
    have := Int.mul_le_mul_of_nonneg_right l g
    omega
  have b2 : s 5 * s (6 + k) ≤ 83886071611392 := by
    apply Rat.intCast_le_intCast.mp
    have e1 : ((83886071611392 : Int) : Rat) = 83886071611392 := rfl
    rw [e1, Rat.intCast_mul]
    grind
  exact ⟨g, by omega⟩
/-- what a fee adds to claims and house of its pool is no more than the fee; of others nothing -/
theorem share_solv (hL : Lok pe po L) (h : MnyD D N T L po) (hD : ∀ p k, D p k ≤ 39999996) {p k : Nat} (hp : p < 5) (hq : (p : Int) < po) (hk : k < 2) (ht : 0 ≤ T (5 * p + k) ∧ T (5 * p + k) < 5) (hc : 0 ≤ T (5 * p + 3) ∧ T (5 * p + 3) ≤ 100) (hR : Rzz (N (22 + 23 * p)) (N (22 + 23 * p + 1))) (h12 : L.length ≤ 12) (z0 : Int) {fee : Int} (hf : 0 ≤ fee ∧ fee ≤ 10000000000) : (∀ r z : Int, ((cutF fee (T (5 * p + 3)) : Int) : Rat) + sumR (claimX p k r z) (shR T L p z0 k fee) ≤ sumR (claimX p k r z) L + (fee : Rat)) ∧ (∀ (q k' : Nat) (r z : Int), k' < 2 → q ≠ p ∨ k' ≠ k → sumR (claimX q k' r z) (shR T L p z0 k fee) = sumR (claimX q k' r z) L) ∧ (∀ s, s ∈ shR T L p z0 k fee → ∀ w, 6 ≤ w → w < 10 → 0 ≤ s w) := by
  have cu := cutF_eq hf hc
  have cu' := rcast_le cu.2
  have hd := dep_r hL h12 (p : Int) z0
  unfold shR
  by_cases c : dep L p z0 = 0
  · rw [if_pos c]
    refine ⟨fun r z => by grind, fun _ _ _ _ _ _ => rfl, h.2.2.2⟩
  · rw [if_neg c]
    obtain ⟨g1, g2⟩ := gnF_eq (l := dep L p z0) hf cu (by omega)
    have eg : shG T L p z0 fee = gnF fee (cutF fee (T (5 * p + 3))) (dep L p z0) := rfl
    rw [eg]
    refine ⟨fun r z => ?_, fun q k' r z hk' hne => sum_shn hne hk hk', fun s hs w w6 w10 => ?_⟩
    · rw [sum_sh hk g1 (fun s hs hsp => gain_b hL h hD hp hq hk ht hR hs hsp)]
      grind
    · obtain ⟨x, hx, ex⟩ := List.mem_map.mp hs
      subst ex
      have hx0 := h.2.2.2 x hx w w6 w10
      unfold shS
      split
      · rename_i c2
        unfold ud
        split
        · have := gain_b hL h hD hp hq hk ht hR hx c2.1
          rw [w64_id (by omega) (by omega)]
          omega
        · exact hx0
      · exact hx0
end GB
