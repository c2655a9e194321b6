/-! a step moves money between a purse and its pool, and nothing else -/
section MS
variable {D : Nat → Nat → Int} {N P Q T : Nat → Int} {L L' : List (Nat → Int)} {th pe po : Int}
theorem T2.k {p : Nat} (ht : T2 T p) {j : Nat} (hj : j < 2) : 0 ≤ T (5 * p + j) ∧ T (5 * p + j) < 5 := by
  rcases (show j = 0 ∨ j = 1 by omega) with rfl | rfl
  · exact ht.1
  · exact ht.2.1
theorem uc_ne {p k per : Nat} (ht : T2 T p) (hk : k < 2) : uc T p k per ≠ uc T p (1 - k) per := by
  have h0 : 0 ≤ T (5 * p + 0) := ht.1.1
  have h1 := ht.2.1
  have h2 : T (5 * p + 0) ≠ T (5 * p + 1) := ht.2.2
  unfold uc
  rcases (show k = 0 ∨ k = 1 by omega) with rfl | rfl
  · rw [show 1 - 0 = 1 from rfl]; omega
  · rw [show 1 - 1 = 0 from rfl]; omega
theorem uc_r {p k per : Nat} (ht : T2 T p) (hk : k < 2) (hper : per < 4) : 2 ≤ uc T p k per ∧ uc T p k per < 22 := by
  have := ht.k hk
  unfold uc
  omega
theorem trN_at {p k per : Nat} (ht : T2 T p) (hk : k < 2) (c g : Int) (j : Nat) : trN N T p k per c g j = if j = uc T p (1 - k) per then w64 (N j + g) else if j = uc T p k per then w64 (N j + w64 (-c)) else N j := by
  have hne := uc_ne (per := per) ht hk
  unfold trN ud
  by_cases c1 : j = uc T p (1 - k) per
  · rw [if_pos c1, if_pos c1, if_neg (fun q => hne q.symm), c1]
  · rw [if_neg c1, if_neg c1]
    by_cases c2 : j = uc T p k per
    · rw [if_pos c2, if_pos c2, c2]
    · rw [if_neg c2, if_neg c2]
theorem tot_cg {A B : Nat → Int} (h1 : ∀ j, j < 20 → A (2 + j) = B (2 + j)) (h2 : ∀ q, A (22 + 23 * q + 2) = B (22 + 23 * q + 2) ∧ A (22 + 23 * q + 3) = B (22 + 23 * q + 3)) {t : Nat} (ht : t < 5) : tot A T po t = tot B T po t := by
  have e : ∀ q, totP A T po t q = totP B T po t q := fun q => by
    unfold totP
    rw [(h2 q).1, (h2 q).2]
  unfold tot
  rw [h1 t (by omega), h1 (5 + t) (by omega), h1 (10 + t) (by omega), h1 (15 + t) (by omega), e, e, e, e, e]
theorem Mny_mv (h : MnyD D P T L po) {p k per : Nat} (hp : p < 5) (hq : (p : Int) < po) (hper : per < 4) (hk : k < 2) (ht : T2 T p) {ci go cut : Int}
    (u1 : Q (uc T p k per) = P (uc T p k per) - ci) (u2 : Q (uc T p (1 - k) per) = P (uc T p (1 - k) per) + go)
    (c1 : Q (hc p k) = P (hc p k) + ci) (c2 : Q (hc p (1 - k)) = P (hc p (1 - k)) - go) (c3 : Q (hoC p k) = P (hoC p k) + cut) (hcut : 0 ≤ cut) (hci : 0 ≤ ci) (hgo : 0 ≤ go)
    (oth : ∀ j, j ≠ uc T p k per → j ≠ uc T p (1 - k) per → j ≠ hc p k → j ≠ hc p (1 - k) → j ≠ hoC p k → j ≠ 22 + 23 * p → j ≠ 22 + 23 * p + 1 → j ≠ 1 → Q j = P j)
    (n1 : 0 ≤ Q (uc T p k per)) (s0 : SolvD D Q L' p k) (s1 : SolvD D Q L' p (1 - k)) (hd : D p (1 - k) = 0) (nn : 0 ≤ sumR (claimX p (1 - k) (Q (22 + 23 * p)) (Q (22 + 23 * p + 1))) L')
    (ho : ∀ q k' : Nat, q < 5 → (q : Int) < po → q ≠ p → k' < 2 → sumR (claimX q k' (P (22 + 23 * q)) (P (22 + 23 * q + 1))) L' = sumR (claimX q k' (P (22 + 23 * q)) (P (22 + 23 * q + 1))) L)
    (h4 : ∀ s, s ∈ L' → ∀ w, 6 ≤ w → w < 10 → 0 ≤ s w) : MnyD D Q T L' po := by
  have hne := uc_ne (per := per) ht hk
  have r1 := uc_r ht hk hper
  have r2 := uc_r ht (show 1 - k < 2 by omega) hper
  have eh1 : hc p k = 22 + 23 * p + (2 + k) := rfl
  have eh2 : hc p (1 - k) = 22 + 23 * p + (2 + (1 - k)) := rfl
  have eo : hoC p k = 22 + 23 * p + (4 + k) := rfl
  have t1 := ht.k hk
  have t2 := ht.k (show 1 - k < 2 by omega)
  have eu1 : uc T p k per = 2 + (5 * per + (T (5 * p + k)).toNat) := rfl
  have eu2 : uc T p (1 - k) per = 2 + (5 * per + (T (5 * p + (1 - k))).toNat) := rfl
  have hk0 := h.2.1 p k hp hq hk
  have hk1 := h.2.1 p (1 - k) hp hq (by omega)
  have ho1 : Q (hoC p (1 - k)) = P (hoC p (1 - k)) := oth _ (by unfold hoC; omega) (by unfold hoC; omega) (by unfold hoC; omega) (by unfold hoC; omega) (by unfold hoC; omega) (by unfold hoC; omega) (by unfold hoC; omega) (by unfold hoC; omega)
  refine ⟨fun j hj => ?_, fun q k' hq5 hqo hk' => ?_, fun t htt => ?_, h4⟩
  · have := h.1 j hj
    by_cases e1 : 2 + j = uc T p k per
    · rw [e1]; exact n1
    · by_cases e2 : 2 + j = uc T p (1 - k) per
      · rw [e2, u2, ← e2]; omega
      · rw [oth _ e1 e2 (by omega) (by omega) (by omega) (by omega) (by omega) (by omega)]; exact this
  · by_cases e : q = p
    · subst e
      rcases (show k' = k ∨ k' = 1 - k by omega) with rfl | rfl
      · refine ⟨?_, ?_, s0⟩
        · show 0 ≤ Q (hoC q k')
          rw [c3]
          have : 0 ≤ P (hoC q k') := hk0.1
          omega
        · show 0 ≤ Q (hc q k')
          rw [c1]
          have : 0 ≤ P (hc q k') := hk0.2.1
          omega
      · have b0 : 0 ≤ Q (hoC q (1 - k)) := by rw [ho1]; exact hk1.1
        refine ⟨b0, ?_, s1⟩
        have s1' := s1
        unfold SolvD at s1'
        rw [hd, Rat.intCast_zero] at s1'
        have b0' := Rat.intCast_nonneg.mpr b0
        have b1 : (Q (hoC q (1 - k)) : Rat) = (Q (22 + 23 * q + (4 + (1 - k))) : Rat) := rfl
        rw [b1] at b0'
        have : (0 : Rat) ≤ (Q (22 + 23 * q + (2 + (1 - k))) : Rat) := by grind
        exact Rat.intCast_nonneg.mp this
    · have hs := h.2.1 q k' hq5 hqo hk'
      have ec : ∀ w, w < 23 → Q (22 + 23 * q + w) = P (22 + 23 * q + w) := fun w hw => oth _ (by omega) (by omega) (by omega) (by omega) (by omega) (by omega) (by omega) (by omega)
      have e0 := ec 0 (by omega)
      rw [Nat.add_zero] at e0
      unfold SolvD at *
      rw [ec (4 + k') (by omega), ec (2 + k') (by omega), e0, ec 1 (by omega), ho q k' hq5 hqo e hk']
      exact hs
  · have h3 := h.2.2.1 t htt
    have ee : tot Q T po t = tot (ud (ud (ud (ud P (2 + (5 * per + (T (5 * p + k)).toNat)) (P (uc T p k per) - ci)) (2 + (5 * per + (T (5 * p + (1 - k))).toNat)) (P (uc T p (1 - k) per) + go)) (22 + 23 * p + (2 + k)) (P (hc p k) + ci)) (22 + 23 * p + (2 + (1 - k))) (P (hc p (1 - k)) - go)) T po t := by
      rw [← eu1, ← eu2, ← eh1, ← eh2]
      have cell : ∀ j, j ≠ hoC p k → j ≠ 22 + 23 * p → j ≠ 22 + 23 * p + 1 → j ≠ 1 → Q j = ud (ud (ud (ud P (uc T p k per) (P (uc T p k per) - ci)) (uc T p (1 - k) per) (P (uc T p (1 - k) per) + go)) (hc p k) (P (hc p k) + ci)) (hc p (1 - k)) (P (hc p (1 - k)) - go) j := by
        intro j a1 a2 a3 a4
        by_cases d1 : j = hc p (1 - k)
        · rw [d1, ud_at, c2]
        · rw [ud_ne d1]
          by_cases d2 : j = hc p k
          · rw [d2, ud_at, c1]
          · rw [ud_ne d2]
            by_cases d3 : j = uc T p (1 - k) per
            · rw [d3, ud_at, u2]
            · rw [ud_ne d3]
              by_cases d4 : j = uc T p k per
              · rw [d4, ud_at, u1]
              · rw [ud_ne d4]
                exact oth j d4 d3 d2 d1 a1 a2 a3 a4
      exact tot_cg (fun j hj => cell _ (by omega) (by omega) (by omega) (by omega)) (fun q => ⟨cell _ (by omega) (by omega) (by omega) (by omega), cell _ (by omega) (by omega) (by omega) (by omega)⟩) htt
    rw [ee, totH _ T po hp hq (show 1 - k < 2 by omega) _ htt, totH _ T po hp hq hk _ htt, totU _ T po hper (show (T (5 * p + (1 - k))).toNat < 5 by omega) _ htt, totU _ T po hper (show (T (5 * p + k)).toNat < 5 by omega) _ htt]
    rw [← eu1, ← eu2, ← eh1, ← eh2]
    rw [ud_ne (show hc p (1 - k) ≠ hc p k by omega), ud_ne (show hc p (1 - k) ≠ uc T p (1 - k) per by omega), ud_ne (show hc p (1 - k) ≠ uc T p k per by omega), ud_ne (show hc p k ≠ uc T p (1 - k) per by omega), ud_ne (show hc p k ≠ uc T p k per by omega), ud_ne (show uc T p (1 - k) per ≠ uc T p k per from fun q => hne q.symm)]
    split <;> split <;> split <;> split <;> omega
end MS
