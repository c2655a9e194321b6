/-! a mark is made, the reference's half -/
/-- the first v numbers moved ahead -/
def mkV (N : Nat → Int) (p v : Nat) : Nat → Int := fun j => if 22 + 23 * p + 7 ≤ j ∧ j < 22 + 23 * p + 7 + v then N (j + 2) else N j
section MR
variable {M : MZ} {N T : Nat → Int} {L : List (Nat → Int)} {th pe po : Int}
theorem R_mark94 (R : RepR M N T L th pe po) {p : Nat} (hp : p < 5) (hc : 0 ≤ N (22 + 23 * p + 6) ∧ N (22 + 23 * p + 6) ≤ 7) (v : Int) : ∃ M', g_X12_marksNow_94 p v M = some ((), M') ∧ RepR M' (mkW N p (N 0) v) T L th pe po ∧ Fr23 M M' := by
  obtain ⟨c, ec⟩ := zR_nat hc.1
  have c7 : c ≤ 7 := by omega
  have R1 := R.cell (j := 22 + 23 * p + (7 + 2 * c)) (by omega) (N 0)
  have R2 := R1.cell (j := 22 + 23 * p + (8 + 2 * c)) (by omega) v
  have R3 := R2.cell (j := 22 + 23 * p + 6) (by omega) ((c : Int) + 1)
  have ew : mkW N p (N 0) v = ud (ud (ud N (22 + 23 * p + (7 + 2 * c)) (N 0)) (22 + 23 * p + (8 + 2 * c)) v) (22 + 23 * p + 6) ((c : Int) + 1) := by
    unfold mkW
    rw [ec, Int.toNat_natCast]
  have m0 := R_marks R hp (by omega)
  have n1 : ud N (22 + 23 * p + (7 + 2 * c)) (N 0) (22 + 23 * p + 6) = c := by rw [ud_ne (by omega)]; exact ec
  have m1 := R_marks R1 hp (by rw [n1]; omega)
  rw [n1] at m1
  rw [ec] at m0
  rw [← ew] at R3
  refine ⟨_, ?_, R3, ?_⟩
  · unfold g_X12_marksNow_94
    rw [m0]
    simp only [bindS]
    have z0 : zL M 23 0 = N 0 := R.2.2.1 0 (by omega)
    rw [z0, w32_id (x := 2 * (c : Int)) (by omega) (by omega), w32_id (x := 7 + 2 * (c : Int)) (by omega) (by omega), R_setPool hp (by omega) (by omega), show (7 + 2 * (c : Int)).toNat = 7 + 2 * c by omega]
    simp only [bindS]
    rw [m1]
    simp only [bindS]
    rw [w32_id (x := 2 * (c : Int)) (by omega) (by omega), w32_id (x := 7 + 2 * (c : Int)) (by omega) (by omega), w32_id (x := 7 + 2 * (c : Int) + 1) (by omega) (by omega), R_setPool hp (by omega) (by omega), show (7 + 2 * (c : Int) + 1).toNat = 8 + 2 * c by omega]
    simp only [bindS]
    rw [R_morePool hp (by omega) (by omega), show ((6 : Int)).toNat = 6 from rfl, R2.2.2.1 (22 + 23 * p + 6) (by omega), ud_ne (by omega), n1, w64_id (by omega) (by omega)]
    simp only [bindS]
  · exact (Fr23_u.trans Fr23_u).trans Fr23_u
theorem R_mark_loop (R : RepR M N T L th pe po) {p : Nat} (hp : p < 5) (v : Int) : ∀ (n f : Nat) (i : Nat) (M' : MZ), i + n = 14 → n < f → RepR M' (mkV N p i) T L th pe po → Fr23 M M' → ∃ M'', RepR M'' (mkV N p 14) T L th pe po ∧ Fr23 M M'' ∧ g_X12_marksNow_49 f p v i M' = ((g_X12_morePool p 6 (-1) M'').bind fun q91 => g_X12_marksNow_94 p v q91.2) := by
  intro n
  induction n with
  | zero =>
    intro f i M' hi hf R' F
    obtain ⟨f, rfl⟩ : ∃ g, f = g + 1 := ⟨f - 1, by omega⟩
    have e : i = 14 := by omega
    subst e
    refine ⟨M', R', F, ?_⟩
    have e1 : g_X12_marksNow_49 (f + 1) p v (14 : Nat) M' = g_X12_marksNow_49B (g_X12_marksNow_49 f) p v (14 : Nat) M' := rfl
    rw [e1]
    unfold g_X12_marksNow_49B
    rw [if_pos (by omega)]
  | succ n ih =>
    intro f i M' hi hf R' F
    obtain ⟨f, rfl⟩ : ∃ g, f = g + 1 := ⟨f - 1, by omega⟩
    have R1 := R'.cell (j := 22 + 23 * p + (7 + i)) (by omega) (mkV N p i (22 + 23 * p + (7 + i + 2)))
    have eq : ud (mkV N p i) (22 + 23 * p + (7 + i)) (mkV N p i (22 + 23 * p + (7 + i + 2))) = mkV N p (i + 1) := by
      funext j
      unfold ud mkV
      by_cases c : j = 22 + 23 * p + (7 + i)
      · subst c
        rw [if_pos rfl, if_neg (by omega), if_pos (by omega)]
        congr 1
      · rw [if_neg c]
        by_cases c2 : 22 + 23 * p + 7 ≤ j ∧ j < 22 + 23 * p + 7 + i
        · rw [if_pos c2, if_pos (by omega)]
        · rw [if_neg c2, if_neg (by omega)]
    rw [eq] at R1
    obtain ⟨M2, a1, a2, a3⟩ := ih f (i + 1) _ (by omega) (by omega) R1 (F.trans Fr23_u)
    refine ⟨M2, a1, a2, ?_⟩
    have e1 : g_X12_marksNow_49 (f + 1) p v i M' = g_X12_marksNow_49B (g_X12_marksNow_49 f) p v i M' := rfl
    rw [e1]
    unfold g_X12_marksNow_49B
    rw [if_neg (by omega), w32_id (x := 7 + (i : Int)) (by omega) (by omega), w32_id (x := 7 + (i : Int) + 2) (by omega) (by omega), R_ofPool hp (by omega) (by omega)]
    simp only [bindS]
    rw [R_setPool hp (by omega) (by omega), show (7 + (i : Int) + 2).toNat = 7 + i + 2 by omega, show (7 + (i : Int)).toNat = 7 + i by omega, R'.2.2.1 (22 + 23 * p + (7 + i + 2)) (by omega)]
    simp only [bindS]
    rw [w32_id (x := (i : Int) + 1) (by omega) (by omega), show (i : Int) + 1 = ((i + 1 : Nat) : Int) by omega]
    exact a3
theorem R_marksNow (R : RepR M N T L th pe po) {p : Nat} (hp : p < 5) (m : Mrk N p) (hz : 0 ≤ N (22 + 23 * p + 1) ∧ N (22 + 23 * p + 1) < 40) (hN : N 0 ≤ 9999999) : ∃ M', g_X12_marksNow p M = some ((), M') ∧ RepR M' (mkN N p) T L th pe po ∧ Fr23 M M' := by
  have hc := m.1
  obtain ⟨c, ec⟩ := zR_nat (p := N (22 + 23 * p + 6) - 1) (by omega)
  have c7 : c ≤ 7 := by omega
  have h0 : mkt N p 0 ≤ N 0 := m.2.2.2 0 (by omega)
  have rs := R_sumAt R hp m hz hN (t := N 0) hN h0
  have rm := R_marks R hp (by omega)
  have z0 : zL M 23 0 = N 0 := R.2.2.1 0 (by omega)
  have eN : mkN N p = if mkt N p c = N 0 then N else mkW (mkC N p) p (N 0) (sAt N p (N 0)) := by
    unfold mkN
    rw [ec, Int.toNat_natCast]
  unfold g_X12_marksNow
  rw [rm]
  simp only [bindS]
  rw [ec, w32_id (by omega) (by omega), (R_markOf R hp (i := c) (by omega)).1]
  simp only [bindS]
  rw [z0, eN]
  by_cases cd : mkt N p c = N 0
  · rw [if_pos cd, if_pos cd]
    exact ⟨M, rfl, R, Fr23.rfl⟩
  · rw [if_neg cd, if_neg cd, rs]
    simp only [bindS]
    rw [rm]
    simp only [bindS]
    by_cases c8 : N (22 + 23 * p + 6) = 8
    · rw [if_pos c8]
      have R0 : RepR M (mkV N p 0) T L th pe po := by
        have : mkV N p 0 = N := by
          funext j
          unfold mkV
          rw [if_neg (by omega)]
        rw [this]
        exact R
      obtain ⟨M2, a1, a2, a3⟩ := R_mark_loop R hp (sAt N p (N 0)) 14 100000 0 M (by omega) (by omega) R0 Fr23.rfl
      have v6 : mkV N p 14 (22 + 23 * p + 6) = 8 := by unfold mkV; rw [if_neg (by omega)]; exact c8
      have R3 := a1.cell (j := 22 + 23 * p + 6) (by omega) 7
      have eB : ud (mkV N p 14) (22 + 23 * p + 6) 7 = mkC N p := by
        unfold mkC
        rw [if_pos c8]
        funext j
        unfold ud mkV mkB
        by_cases c1 : j = 22 + 23 * p + 6
        · rw [if_pos c1, if_neg (by omega), if_pos c1]
        · rw [if_neg c1]
          by_cases c2 : 22 + 23 * p + 7 ≤ j ∧ j < 22 + 23 * p + 21
          · rw [if_pos c2, if_pos (by omega)]
          · rw [if_neg c2, if_neg (by omega), if_neg c1]
      rw [eB] at R3
      have b6 : mkC N p (22 + 23 * p + 6) = 7 := by rw [← eB]; exact ud_at _ _ _
      have b0 : mkC N p 0 = N 0 := by
        rw [← eB, ud_ne (by omega)]
        unfold mkV
        rw [if_neg (by omega)]
      obtain ⟨M4, d1, d2, d3⟩ := R_mark94 R3 hp (by omega) (sAt N p (N 0))
      rw [b0] at d2
      refine ⟨M4, ?_, d2, (a2.trans Fr23_u).trans d3⟩
      rw [show ((0 : Nat) : Int) = 0 from rfl] at a3
      rw [a3, R_morePool hp (by omega) (by omega), show ((6 : Int)).toNat = 6 from rfl, a1.2.2.1 (22 + 23 * p + 6) (by omega), v6, w64_id (by omega) (by omega)]
      simp only [bindS]
      exact d1
    · rw [if_neg c8]
      have e1 : mkC N p = N := by unfold mkC; rw [if_neg c8]
      rw [e1]
      exact R_mark94 R hp (by omega) _
end MR
