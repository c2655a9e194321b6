/-! loans: the money -/
theorem mk_clr : ∀ m, m < 32 → ∀ t, t < 5 → and32 ((m : Nat) : Int) (xor32 (shl32 1 (and32 ((t : Nat) : Int) 31)) (-1)) = ((if m / 2 ^ t % 2 = 1 then m - 2 ^ t else m : Nat) : Int) := by decide +kernel
theorem mk_clr_lt : ∀ m, m < 32 → ∀ t, t < 5 → (if m / 2 ^ t % 2 = 1 then m - 2 ^ t else m) < 32 := by decide +kernel
theorem mk_clr_has : ∀ m, m < 32 → ∀ t, t < 5 → ∀ u, u < 5 → ((if m / 2 ^ t % 2 = 1 then m - 2 ^ t else m) / 2 ^ u % 2 = 1 ↔ m / 2 ^ u % 2 = 1 ∧ u ≠ t) := by decide +kernel
section LM
variable {D D' : Nat → Nat → Int} {N T : Nat → Int} {L : List (Nat → Int)} {th pe po : Int}
theorem gOut_ud {p k per : Nat} (hk : k < 2) (hper : per < 4) (ht : T2 T p) {v : Int} (v0 : -1000000000 ≤ v ∧ v ≤ 1000000000) (n0 : 0 ≤ N (hc p k) ∧ N (hc p k) ≤ 1000000000) (m0 : 0 ≤ N (uc T p k per) ∧ N (uc T p k per) ≤ 1000000000) : gOut N T p k per v = ud (ud N (hc p k) (N (hc p k) - v)) (uc T p k per) (N (uc T p k per) + v) := by
  have r := uc_r ht hk hper
  have eh : hc p k = 22 + 23 * p + (2 + k) := rfl
  funext j
  unfold gOut ud
  by_cases c1 : j = hc p k
  · rw [if_pos c1, if_neg (by omega), if_pos c1, c1, w64_id (by omega) (by omega)]
  · rw [if_neg c1]
    by_cases c2 : j = uc T p k per
    · rw [if_pos c2, if_pos c2, c2, w64_id (by omega) (by omega)]
    · rw [if_neg c2, if_neg c2, if_neg c1]
theorem Mny_g1 (h : MnyD D N T L po) {p k per : Nat} (hp : p < 5) (hq : (p : Int) < po) (hk : k < 2) (hper : per < 4) (ht : T2 T p) {v c : Int} {L' : List (Nat → Int)} (v0 : -1000000000 ≤ v ∧ v ≤ 1000000000)
    (u0 : 0 ≤ N (uc T p k per) + v) (k0 : 0 ≤ N (hc p k) - v) (c0 : 0 ≤ N (hoC p k) + c)
    (s0 : (N (hoC p k) : Rat) + (c : Rat) + sumR (claimX p k (N (22 + 23 * p)) (N (22 + 23 * p + 1))) L' + (v : Rat) ≤ (N (hc p k) : Rat) + (D' p k : Rat))
    (hd : ∀ q k', q ≠ p ∨ k' ≠ k → D' q k' = D q k')
    (ho : ∀ q k' : Nat, q < 5 → (q : Int) < po → k' < 2 → q ≠ p ∨ k' ≠ k → sumR (claimX q k' (N (22 + 23 * q)) (N (22 + 23 * q + 1))) L' ≤ sumR (claimX q k' (N (22 + 23 * q)) (N (22 + 23 * q + 1))) L)
    (h4 : ∀ s, s ∈ L' → ∀ w, 6 ≤ w → w < 10 → 0 ≤ s w) : MnyD D' (ud (gOut N T p k per v) (hoC p k) (N (hoC p k) + c)) T L' po := by
  have htk := ht.k hk
  have r := uc_r ht hk hper
  have eu : uc T p k per = 2 + (5 * per + (T (5 * p + k)).toNat) := rfl
  have eh : hc p k = 22 + 23 * p + (2 + k) := rfl
  have eo : hoC p k = 22 + 23 * p + (4 + k) := rfl
  have n0 := h.bp hp hq hk htk
  have n0' := (h.2.1 p k hp hq hk).2.1
  have m0 := h.bu hper (t := (T (5 * p + k)).toNat) (by omega)
  have m0' := h.1 (5 * per + (T (5 * p + k)).toNat) (by omega)
  rw [← eh] at n0 n0'
  rw [← eu] at m0 m0'
  have hN := gOut_ud hk hper ht v0 (N := N) (by omega) (by omega)
  rw [hN]
  refine ⟨fun j hj => ?_, fun q k' hq5 hqo hk' => ?_, fun t htt => ?_, h4⟩
  · rw [ud_ne (by omega)]
    unfold ud
    have := h.1 j hj
    split
    · omega
    · split <;> omega
  · have hs := h.2.1 q k' hq5 hqo hk'
    have e0 : ud (ud (ud N (hc p k) (N (hc p k) - v)) (uc T p k per) (N (uc T p k per) + v)) (hoC p k) (N (hoC p k) + c) (22 + 23 * q) = N (22 + 23 * q) := by rw [ud_ne (by omega), ud_ne (by omega), ud_ne (by omega)]
    have e1 : ud (ud (ud N (hc p k) (N (hc p k) - v)) (uc T p k per) (N (uc T p k per) + v)) (hoC p k) (N (hoC p k) + c) (22 + 23 * q + 1) = N (22 + 23 * q + 1) := by rw [ud_ne (by omega), ud_ne (by omega), ud_ne (by omega)]
    unfold SolvD
    rw [e0, e1]
    by_cases cc : q = p ∧ k' = k
    · obtain ⟨rfl, rfl⟩ := cc
      rw [← eh, ← eo, ud_at, ud_ne (show hc q k' ≠ hoC q k' by omega), ud_ne (show hc q k' ≠ uc T q k' per by omega), ud_at]
      refine ⟨c0, k0, ?_⟩
      rw [Rat.intCast_sub, Rat.intCast_add]
      grind
    · have cc' : q ≠ p ∨ k' ≠ k := by omega
      rw [ud_ne (show 22 + 23 * q + (4 + k') ≠ hoC p k by omega), ud_ne (show 22 + 23 * q + (4 + k') ≠ uc T p k per by omega), ud_ne (show 22 + 23 * q + (4 + k') ≠ hc p k by omega), ud_ne (show 22 + 23 * q + (2 + k') ≠ hoC p k by omega), ud_ne (show 22 + 23 * q + (2 + k') ≠ uc T p k per by omega), ud_ne (show 22 + 23 * q + (2 + k') ≠ hc p k by omega), hd q k' cc']
      refine ⟨hs.1, hs.2.1, ?_⟩
      have h1 := hs.2.2
      have h2 := ho q k' hq5 hqo hk' cc'
      unfold SolvD at h1
      grind
  · have h3 := h.2.2.1 t htt
    have x0 : tot (ud (ud (ud N (hc p k) (N (hc p k) - v)) (uc T p k per) (N (uc T p k per) + v)) (hoC p k) (N (hoC p k) + c)) T po t = tot (ud (ud N (hc p k) (N (hc p k) - v)) (uc T p k per) (N (uc T p k per) + v)) T po t := by
      unfold tot totP
      have g : ∀ q w, w < 4 → ud (ud (ud N (hc p k) (N (hc p k) - v)) (uc T p k per) (N (uc T p k per) + v)) (hoC p k) (N (hoC p k) + c) (22 + 23 * q + w) = ud (ud N (hc p k) (N (hc p k) - v)) (uc T p k per) (N (uc T p k per) + v) (22 + 23 * q + w) := fun q w hw => ud_ne (by omega)
      have g2 : ∀ x, x < 22 → ud (ud (ud N (hc p k) (N (hc p k) - v)) (uc T p k per) (N (uc T p k per) + v)) (hoC p k) (N (hoC p k) + c) x = ud (ud N (hc p k) (N (hc p k) - v)) (uc T p k per) (N (uc T p k per) + v) x := fun x hx => ud_ne (by omega)
      rw [g 0 2 (by omega), g 0 3 (by omega), g 1 2 (by omega), g 1 3 (by omega), g 2 2 (by omega), g 2 3 (by omega), g 3 2 (by omega), g 3 3 (by omega), g 4 2 (by omega), g 4 3 (by omega), g2 (2 + t) (by omega), g2 (2 + (5 + t)) (by omega), g2 (2 + (10 + t)) (by omega), g2 (2 + (15 + t)) (by omega)]
    have x3 := totU (ud N (hc p k) (N (hc p k) - v)) T po hper (t' := (T (5 * p + k)).toNat) (by omega) (N (uc T p k per) + v) htt
    have x4 := totH N T po hp hq hk (N (hc p k) - v) htt
    rw [← eu, ud_ne (show uc T p k per ≠ hc p k by omega)] at x3
    rw [← eh] at x4
    rw [x0, x3, x4]
    split <;> split <;> omega
/-- what is lent goes -/
theorem lend_money (h : MnyD D N T L po) {p k per : Nat} (hp : p < 5) (hq : (p : Int) < po) (hk : k < 2) (hper : per < 4) (ht : T2 T p) {a : Int} (ha : 1 ≤ a ∧ a ≤ N (hc p k)) (hd0 : D p k = 0) : MnyD (fun q k' => if q = p ∧ k' = k then a else D q k') (gOut N T p k per a) T L po := by
  have eo : hoC p k = 22 + 23 * p + (4 + k) := rfl
  have eh : hc p k = 22 + 23 * p + (2 + k) := rfl
  have eu : uc T p k per = 2 + (5 * per + (T (5 * p + k)).toNat) := rfl
  have htk := ht.k hk
  have hs := h.2.1 p k hp hq hk
  have n0 := h.bp hp hq hk htk
  rw [← eh] at n0
  have m0' := h.1 (5 * per + (T (5 * p + k)).toNat) (by omega)
  rw [← eu] at m0'
  have r := uc_r ht hk hper
  have hm := Mny_g1 (D' := fun q k' => if q = p ∧ k' = k then a else D q k') (c := 0) h hp hq hk hper ht (v := a) (L' := L) (by omega) (by omega) (by omega) (by rw [eo]; have := hs.1; omega) (by
    have h1 := hs.2.2
    unfold SolvD at h1
    rw [hd0] at h1
    show _ ≤ (N (hc p k) : Rat) + (((if p = p ∧ k = k then a else D p k) : Int) : Rat)
    rw [if_pos ⟨rfl, rfl⟩, eo, eh]
    grind) (fun q k' c => if_neg (by omega)) (fun q k' _ _ _ _ => Rat.le_refl) h.2.2.2
  have en : ud (gOut N T p k per a) (hoC p k) (N (hoC p k) + 0) = gOut N T p k per a := by
    funext j
    unfold ud
    by_cases c : j = hoC p k
    · rw [if_pos c, c, eo, gOut_rz hk hper htk p (by omega) (by omega)]; omega
    · rw [if_neg c]
  rw [en] at hm
  exact hm
/-- it comes back, with a fee -/
theorem back_money (hL : Lok pe po L) (h12 : L.length ≤ 12) (h : MnyD D N T L po) (hD : ∀ p k, D p k ≤ 39999996) {p k per : Nat} (hp : p < 5) (hq : (p : Int) < po) (hk : k < 2) (hper : per < 4) (ht : T2 T p) (hc3 : 0 ≤ T (5 * p + 3) ∧ T (5 * p + 3) ≤ 100) (hR : Rzz (N (22 + 23 * p)) (N (22 + 23 * p + 1))) {a fee : Int} (ha : 1 ≤ a ∧ a ≤ 39999996) (hf : 0 ≤ fee ∧ fee ≤ 39999996) (hd0 : D p k = a) (hpu : a + fee ≤ N (uc T p k per)) : MnyD (fun q k' => if q = p ∧ k' = k then 0 else D q k') (shN (gOut N T p k per (-a - fee)) T p k fee) T (shR T L p (N (22 + 23 * p + 1)) k fee) po := by
  have eo : hoC p k = 22 + 23 * p + (4 + k) := rfl
  have eh : hc p k = 22 + 23 * p + (2 + k) := rfl
  have htk := ht.k hk
  have hs := h.2.1 p k hp hq hk
  have n0 := h.bp hp hq hk htk
  have hcut := cutF_eq (fee := fee) (c := T (5 * p + 3)) (by omega) hc3
  obtain ⟨sv1, sv2, sv3⟩ := share_solv hL h hD hp hq hk htk hc3 hR h12 (N (22 + 23 * p + 1)) (fee := fee) (by omega)
  have hm := Mny_g1 (D' := fun q k' => if q = p ∧ k' = k then 0 else D q k') (c := cutF fee (T (5 * p + 3))) h hp hq hk hper ht (v := -a - fee) (L' := shR T L p (N (22 + 23 * p + 1)) k fee) (by omega) (by omega) (by rw [eh]; have := hs.2.1; omega) (by rw [eo]; have := hs.1; omega) (by
    have h1 := hs.2.2
    unfold SolvD at h1
    rw [hd0] at h1
    have h2 := sv1 (N (22 + 23 * p)) (N (22 + 23 * p + 1))
    show _ ≤ (N (hc p k) : Rat) + (((if p = p ∧ k = k then 0 else D p k) : Int) : Rat)
    rw [if_pos ⟨rfl, rfl⟩, eo, eh]
    have e1 : ((-a - fee : Int) : Rat) = -(a : Rat) - (fee : Rat) := by rw [Rat.intCast_sub, Rat.intCast_neg]
    rw [e1]
    grind) (fun q k' c => if_neg (by omega)) (fun q k' h1 h2 h3 h4 => by rw [sv2 q k' _ _ h3 h4]; exact Rat.le_refl) sv3
  have hb : N (hoC p k) ≤ 79999992 := by
    have h1 := hs.2.2
    unfold SolvD at h1
    have h5 := sumR_nn (claim_nn hL h.2.2.2 hR p hk)
    have h6 : (N (22 + 23 * p + (4 + k)) : Rat) ≤ ((N (22 + 23 * p + (2 + k)) + D p k : Int) : Rat) := by
      rw [Rat.intCast_add]
      grind
    have h7 : N (22 + 23 * p + (4 + k)) ≤ N (22 + 23 * p + (2 + k)) + D p k := Rat.intCast_le_intCast.mp h6
    have := hD p k
    rw [eo]
    omega
  have en : shN (gOut N T p k per (-a - fee)) T p k fee = ud (gOut N T p k per (-a - fee)) (hoC p k) (N (hoC p k) + cutF fee (T (5 * p + 3))) := by
    unfold shN
    have e1 : gOut N T p k per (-a - fee) (hoC p k) = N (hoC p k) := by rw [eo]; exact gOut_rz hk hper htk p (by omega) (by omega)
    have h0 : 0 ≤ N (hoC p k) := by rw [eo]; exact hs.1
    rw [e1, w64_id (by omega) (by omega)]
  rw [en]
  exact hm
end LM
