/-! bounds out of what there is in all -/
section MN
variable {D : Nat → Nat → Int} {N T : Nat → Int} {L : List (Nat → Int)} {th pe po : Int}
theorem totP_nn (h : MnyD D N T L po) (t : Int) {q : Nat} (hq : q < 5) : 0 ≤ totP N T po t q := by
  unfold totP
  split
  · rename_i c
    have h0 := (h.2.1 q 0 hq c (by omega)).2.1
    have h1 := (h.2.1 q 1 hq c (by omega)).2.1
    have h0' : 0 ≤ N (22 + 23 * q + 2) := h0
    have h1' : 0 ≤ N (22 + 23 * q + 3) := h1
    split <;> split <;> omega
  · omega
theorem MnyD.bu (h : MnyD D N T L po) {per t : Nat} (hper : per < 4) (ht : t < 5) : N (2 + (5 * per + t)) ≤ 39999996 := by
  have := h.2.2.1 t ht
  have a0 := h.1 t (by omega)
  have a1 := h.1 (5 + t) (by omega)
  have a2 := h.1 (10 + t) (by omega)
  have a3 := h.1 (15 + t) (by omega)
  have b0 := totP_nn h (t : Int) (q := 0) (by omega)
  have b1 := totP_nn h (t : Int) (q := 1) (by omega)
  have b2 := totP_nn h (t : Int) (q := 2) (by omega)
  have b3 := totP_nn h (t : Int) (q := 3) (by omega)
  have b4 := totP_nn h (t : Int) (q := 4) (by omega)
  unfold tot at this
  have : per = 0 ∨ per = 1 ∨ per = 2 ∨ per = 3 := by omega
  rcases this with rfl | rfl | rfl | rfl
  · rw [show 5 * 0 + t = t by omega]; omega
  · rw [show 5 * 1 + t = 5 + t by omega]; omega
  · rw [show 5 * 2 + t = 10 + t by omega]; omega
  · rw [show 5 * 3 + t = 15 + t by omega]; omega
theorem MnyD.bp (h : MnyD D N T L po) {p k : Nat} (hp : p < 5) (hq : (p : Int) < po) (hk : k < 2) (ht : 0 ≤ T (5 * p + k) ∧ T (5 * p + k) < 5) : N (22 + 23 * p + (2 + k)) ≤ 39999996 := by
  obtain ⟨t, et⟩ := zR_nat ht.1
  have := h.2.2.1 t (by omega)
  have a0 := h.1 t (by omega)
  have a1 := h.1 (5 + t) (by omega)
  have a2 := h.1 (10 + t) (by omega)
  have a3 := h.1 (15 + t) (by omega)
  have b0 := totP_nn h (t : Int) (q := 0) (by omega)
  have b1 := totP_nn h (t : Int) (q := 1) (by omega)
  have b2 := totP_nn h (t : Int) (q := 2) (by omega)
  have b3 := totP_nn h (t : Int) (q := 3) (by omega)
  have b4 := totP_nn h (t : Int) (q := 4) (by omega)
  have c0 : 0 ≤ N (22 + 23 * p + 2) := (h.2.1 p 0 hp hq (by omega)).2.1
  have c1 : 0 ≤ N (22 + 23 * p + 3) := (h.2.1 p 1 hp hq (by omega)).2.1
  have hP : N (22 + 23 * p + (2 + k)) ≤ totP N T po t p := by
    unfold totP
    rw [if_pos hq]
    have : k = 0 ∨ k = 1 := by omega
    rcases this with rfl | rfl
    · have et' : T (5 * p) = t := et
      rw [if_pos et', show 2 + 0 = 2 from rfl]
      split <;> omega
    · rw [if_pos et, show 2 + 1 = 3 from rfl]
      split <;> omega
  unfold tot at this
  have : p = 0 ∨ p = 1 ∨ p = 2 ∨ p = 3 ∨ p = 4 := by omega
  rcases this with rfl | rfl | rfl | rfl | rfl <;> omega
theorem claim_nn (hL : Lok pe po L) (h4 : ∀ s, s ∈ L → ∀ w, 6 ≤ w → w < 10 → 0 ≤ s w) {r z : Int} (hR : Rzz r z) (p : Nat) {k : Nat} (hk : k < 2) : ∀ s, s ∈ L → 0 ≤ claimX p k r z s := by
  intro s hs
  have h := hL s hs
  unfold claimX oweX
  split
  · have d := Rat.intCast_nonneg.mpr (h4 s hs (8 + k) (by omega) (by omega))
    have g := Rat.intCast_nonneg.mpr (h4 s hs (6 + k) (by omega) (by omega))
    have l := Rat.intCast_nonneg.mpr (show 0 ≤ s 5 by have := h.2.2.2.2.1; omega)
    have u := uX_nn hR h.2.2.1 k
    have m1 := Rat.mul_nonneg l g
    have m2 := Rat.mul_nonneg l u
    grind
  · exact Rat.le_refl
theorem owd_eq {s : Nat → Int} {k : Nat} (hd : 0 ≤ s (8 + k)) (hD : s (8 + k) ≤ 1000000000) (hg : 0 ≤ s 5 * s (6 + k)) (hG : s 5 * s (6 + k) ≤ 1000000000000000) : owd s k = s (8 + k) + s 5 * s (6 + k) / 1048576 := by
  have h := fdiv_r (y := 1048576) hg (by omega)
  unfold owd
  rw [w64_id (x := s 5 * s (6 + k)) (by omega) (by omega), Int.tdiv_eq_ediv_of_nonneg hg, w64_id (x := s 5 * s (6 + k) / 1048576) (by omega) (by omega), w64_id (by omega) (by omega)]
/-- what is owed to a stake is whole, within bounds, and no more than it claims -/
theorem owd_ok (hL : Lok pe po L) (h : MnyD D N T L po) (hD : ∀ p k, D p k ≤ 39999996) {p k : Nat} (hp : p < 5) (hq : (p : Int) < po) (hk : k < 2) (ht : 0 ≤ T (5 * p + k) ∧ T (5 * p + k) < 5) (hR : Rzz (N (22 + 23 * p)) (N (22 + 23 * p + 1))) {s : Nat → Int} (hs : s ∈ L) (hsp : s 1 = p) : 0 ≤ owd s k ∧ owd s k ≤ 79999992 ∧ ((owd s k : Int) : Rat) ≤ oweX k s := by
  have hb := h.bp hp hq hk ht
  have hh := h.2.1 p k hp hq hk
  have hn := claim_nn hL h.2.2.2 hR p hk
  have hm := sumR_mem hn hs
  have hS := hh.2.2
  unfold SolvD at hS
  have e : claimX p k (N (22 + 23 * p)) (N (22 + 23 * p + 1)) s = oweX k s + (s 5 : Rat) * uX k (N (22 + 23 * p)) (N (22 + 23 * p + 1)) (s 2) (s 3) := if_pos hsp
  rw [e] at hm
  have hk' := hL s hs
  have d := h.2.2.2 s hs (8 + k) (by omega) (by omega)
  have g := h.2.2.2 s hs (6 + k) (by omega) (by omega)
  have l : 0 ≤ s 5 := by have := hk'.2.2.2.2.1; omega
  have u := uX_nn hR hk'.2.2.1 k
  have m2 := Rat.mul_nonneg (Rat.intCast_nonneg.mpr l) u
  have c1 := rcast_le hb
  have c2 := rcast_le (hD p k)
  have c3 := Rat.intCast_nonneg.mpr hh.1
  have q1 : oweX k s ≤ 79999992 := by
    have e1 : ((39999996 : Int) : Rat) = 39999996 := rfl
    rw [e1] at c1 c2
    grind
  have d' := Rat.intCast_nonneg.mpr d
  have m1 := Int.mul_nonneg l g
  have m1' := Rat.intCast_nonneg.mpr m1
  rw [Rat.intCast_mul] at m1'
  unfold oweX at q1
  have b1 : s (8 + k) ≤ 79999992 := by
    apply Rat.intCast_le_intCast.mp
    have e1 : ((79999992 : Int) : Rat) = 79999992 := rfl
    rw [e1]
    grind
  have b2 : s 5 * s (6 + k) ≤ 83886071611392 := by
    apply Rat.intCast_le_intCast.mp
    have e1 : ((83886071611392 : Int) : Rat) = 83886071611392 := rfl
    rw [e1, Rat.intCast_mul]
    grind
  have hq1 := owd_eq (s := s) (k := k) d (by omega) m1 (by omega)
  have hf := fdiv_q (x := s 5 * s (6 + k)) (y := 1048576) (by omega)
  have hr := fdiv_r (y := 1048576) m1 (by omega)
  have e2 : ((1048576 : Int) : Rat) = 1048576 := rfl
  rw [e2, Rat.intCast_mul] at hf
  have q2 : ((owd s k : Int) : Rat) ≤ oweX k s := by
    rw [hq1, Rat.intCast_add]
    unfold oweX
    grind
  refine ⟨by rw [hq1]; omega, ?_, q2⟩
  apply Rat.intCast_le_intCast.mp
  have e1 : ((79999992 : Int) : Rat) = 79999992 := rfl
  rw [e1]
  unfold oweX at q2
  grind
theorem totU (N T : Nat → Int) (po : Int) {per t' : Nat} (hper : per < 4) (ht' : t' < 5) (v : Int) {t : Nat} (ht : t < 5) : tot (ud N (2 + (5 * per + t')) v) T po t = tot N T po t + (if t = t' then v - N (2 + (5 * per + t')) else 0) := by
  have e : ∀ q, q < 5 → totP (ud N (2 + (5 * per + t')) v) T po t q = totP N T po t q := by
    intro q hq
    unfold totP
    rw [ud_ne (by omega), ud_ne (by omega)]
  unfold tot
  rw [e 0 (by omega), e 1 (by omega), e 2 (by omega), e 3 (by omega), e 4 (by omega)]
  unfold ud
  by_cases c : t = t'
  · subst c
    rw [if_pos rfl]
    have : per = 0 ∨ per = 1 ∨ per = 2 ∨ per = 3 := by omega
    rcases this with rfl | rfl | rfl | rfl
    · rw [if_pos (by omega), if_neg (by omega), if_neg (by omega), if_neg (by omega), show 5 * 0 + t = t by omega]; omega
    · rw [if_neg (by omega), if_pos (by omega), if_neg (by omega), if_neg (by omega), show 5 * 1 + t = 5 + t by omega]; omega
    · rw [if_neg (by omega), if_neg (by omega), if_pos (by omega), if_neg (by omega), show 5 * 2 + t = 10 + t by omega]; omega
    · rw [if_neg (by omega), if_neg (by omega), if_neg (by omega), if_pos (by omega), show 5 * 3 + t = 15 + t by omega]; omega
  · rw [if_neg c, if_neg (by omega), if_neg (by omega), if_neg (by omega), if_neg (by omega)]; omega
theorem totH (N T : Nat → Int) (po : Int) {p k : Nat} (hp : p < 5) (hq : (p : Int) < po) (hk : k < 2) (v : Int) {t : Nat} (ht : t < 5) : tot (ud N (22 + 23 * p + (2 + k)) v) T po t = tot N T po t + (if T (5 * p + k) = t then v - N (22 + 23 * p + (2 + k)) else 0) := by
  have e : ∀ q, q ≠ p → totP (ud N (22 + 23 * p + (2 + k)) v) T po t q = totP N T po t q := by
    intro q hq
    unfold totP
    rw [ud_ne (by omega), ud_ne (by omega)]
  have e2 : totP (ud N (22 + 23 * p + (2 + k)) v) T po t p = totP N T po t p + (if T (5 * p + k) = t then v - N (22 + 23 * p + (2 + k)) else 0) := by
    unfold totP
    rw [if_pos hq, if_pos hq]
    have : k = 0 ∨ k = 1 := by omega
    rcases this with rfl | rfl
    · rw [show ud N (22 + 23 * p + (2 + 0)) v (22 + 23 * p + 2) = v from ud_at _ _ _, ud_ne (show 22 + 23 * p + 3 ≠ 22 + 23 * p + (2 + 0) by omega), show 5 * p + 0 = 5 * p from rfl, show 22 + 23 * p + (2 + 0) = 22 + 23 * p + 2 from rfl]
      split <;> split <;> omega
    · rw [show ud N (22 + 23 * p + (2 + 1)) v (22 + 23 * p + 3) = v from ud_at _ _ _, ud_ne (show 22 + 23 * p + 2 ≠ 22 + 23 * p + (2 + 1) by omega), show 22 + 23 * p + (2 + 1) = 22 + 23 * p + 3 from rfl]
      split <;> split <;> omega
  unfold tot
  rw [ud_ne (show 2 + t ≠ 22 + 23 * p + (2 + k) by omega), ud_ne (show 2 + (5 + t) ≠ 22 + 23 * p + (2 + k) by omega), ud_ne (show 2 + (10 + t) ≠ 22 + 23 * p + (2 + k) by omega), ud_ne (show 2 + (15 + t) ≠ 22 + 23 * p + (2 + k) by omega)]
  have : p = 0 ∨ p = 1 ∨ p = 2 ∨ p = 3 ∨ p = 4 := by omega
  rcases this with rfl | rfl | rfl | rfl | rfl
  · rw [e2, e 1 (by omega), e 2 (by omega), e 3 (by omega), e 4 (by omega)]; omega
  · rw [e2, e 0 (by omega), e 2 (by omega), e 3 (by omega), e 4 (by omega)]; omega
  · rw [e2, e 1 (by omega), e 0 (by omega), e 3 (by omega), e 4 (by omega)]; omega
  · rw [e2, e 1 (by omega), e 2 (by omega), e 0 (by omega), e 4 (by omega)]; omega
  · rw [e2, e 1 (by omega), e 2 (by omega), e 3 (by omega), e 0 (by omega)]; omega
end MN
