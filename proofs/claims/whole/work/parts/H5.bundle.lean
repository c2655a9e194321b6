/-! bundle -/
section BU
variable {T : Nat → Int} {th pe po : Int} {per sz : Nat}
theorem K_goesOn {M : MZ} : g_X5_goesOn M = some (if zI M 9 1 = 0 ∧ (0 < zI M 9 7 ∨ zI M 9 6 < zI M 6 0) then 1 else 0, M) := by
  unfold g_X5_goesOn g_X5_goesOn_28 g_X5_goesOn_32 g_X5_goesOn_33
  rw [if_pos (Or.inl rfl), if_pos (Or.inr rfl)]
  by_cases c1 : zI M 9 1 = 0
  · rw [if_pos c1]
    by_cases c2 : 0 < zI M 9 7
    · rw [if_pos c2, if_pos ⟨c1, Or.inl c2⟩]
    · rw [if_neg c2]
      by_cases c3 : zI M 6 0 ≤ zI M 9 6
      · rw [if_pos c3, if_neg (by omega)]
      · rw [if_neg c3, if_pos (by omega)]
  · rw [if_neg c1, if_neg (fun q => c1 q.1)]
/-- how a run ends -/
def REN (Mc Mr : MZ) (T : Nat → Int) (th pe po : Int) (per : Nat) (Mc' : MZ) (C : Option (Int × MZ)) : Prop := ∃ Mr', FCT Mc Mc' ∧ FRT Mr Mr' ∧ ((C = some (1, Mr') ∧ zI Mc' 9 1 = 0 ∧ zI Mr' 20 44 = zI Mc' 9 0 ∧ ∃ N' L', CR Mc' Mr' N' T L' th pe po D0 0 per) ∨ (C = some (0, Mr') ∧ zI Mr' 20 10 = zI Mc' 9 1 ∧ 0 < zI Mc' 9 1 ∧ HP Mc' 78 ∧ KON Mr'))
theorem D_zero {D : Nat → Nat → Int} {N : Nat → Int} {L : List (Nat → Int)} (h : MnyD D N T L po) (hd : ∀ q, q < 5 → D q 0 = 0 ∧ D q 1 = 0) : MnyD D0 N T L po := by
  refine ⟨h.1, fun p k hp hq hk => ?_, h.2.2⟩
  have := h.2.1 p k hp hq hk
  refine ⟨this.1, this.2.1, ?_⟩
  have h1 := this.2.2
  unfold SolvD at *
  have e : D p k = D0 p k := by
    have h5 := hd p hp
    have hkk : k = 0 ∨ k = 1 := by omega
    rcases hkk with e | e
    · rw [e]; exact h5.1
    · rw [e]; exact h5.2
  rw [← e]
  exact h1
theorem sim_run : ∀ (mu f1 f2 t : Nat) (Mc Mr : MZ) (N : Nat → Int) (L : List (Nat → Int)) (D : Nat → Nat → Int) (m at' dp dn : Nat) (st : Nat → Nat) (e : Nat), RUN Mc Mr N T L th pe po D m per sz at' dp dn st → EV Mr at' dp st e → 6 * (100 - dn) + dp + e ≤ mu → mu + 1 < f1 → mu + 1 < f2 → t + mu < 999 → ∃ Mc', g_X11_bundle_65 f1 t Mc = g_X11_bundle_95 Mc' ∧ REN Mc Mr T th pe po per Mc' (g_X12_doesAll_7 f2 at' Mr) := by
  intro mu
  induction mu using Nat.strongRecOn with
  | _ mu ih =>
    intro f1 f2 t Mc Mr N L D m at' dp dn st e H hev hmu hf1 hf2 ht
    obtain ⟨f1, rfl⟩ : ∃ g, f1 = g + 1 := ⟨f1 - 1, by omega⟩
    obtain ⟨f2, rfl⟩ : ∃ g, f2 = g + 1 := ⟨f2 - 1, by omega⟩
    have e1 : g_X11_bundle_65 (f1 + 1) t Mc = g_X11_bundle_65B (g_X11_bundle_65 f1) t Mc := rfl
    have e2 : g_X12_doesAll_7 (f2 + 1) at' Mr = g_X12_doesAll_7B (g_X12_doesAll_7 f2) at' Mr := rfl
    have H' := H
    obtain ⟨hR, hP, ⟨z0, z1, z6, z7⟩, ⟨y44, y50⟩, hb, hg, hB, hCh, hE, hDi, hlk⟩ := H'
    rw [e1, e2]
    unfold g_X11_bundle_65B g_X12_doesAll_7B
    rw [if_neg (show ¬ (1000 : Int) ≤ (t : Int) by omega), K_goesOn, z1, z6, z7, hP.1.1, if_neg (show ¬ (at' : Int) < 0 by omega), y50, hP.1.2.1]
    simp only [bindS]
    by_cases cgo : 0 < dp ∨ at' < sz
    · have hgo : (0 : Int) = 0 ∧ (0 < (dp : Int) ∨ (at' : Int) < (sz : Int)) := by omega
      have hgo' : 0 < (dp : Int) ∨ (at' : Int) < (sz : Int) := by omega
      have eC : (if 0 < (dp : Int) then g_X12_doesAll_26 (g_X12_doesAll_7 f2) at' Mr else if (sz : Int) ≤ (at' : Int) then g_X12_doesAll_69 at' Mr else g_X12_doesAll_26 (g_X12_doesAll_7 f2) at' Mr) = g_X12_doesAll_26 (g_X12_doesAll_7 f2) at' Mr := by
        by_cases c : 0 < (dp : Int)
        · rw [if_pos c]
        · rw [if_neg c, if_neg (by omega)]
      rw [eC, show (if True ∧ (0 < (dp : Int) ∨ (at' : Int) < (sz : Int)) then (1 : Int) else 0) = 1 from if_pos ⟨trivial, hgo'⟩, if_neg (show ¬ (1 : Int) = 0 by omega)]
      rcases sim_turn H cgo hev hmu with ⟨Mc1, Mr1, N1, L1, D1, m1, at1, dp1, dn1, st1, e1', a1, a2, a3, a4, a5, a6, a7⟩ | ⟨Mc1, Mr1, fl, a1, a2, a3, a4, a5, a6, a7, a8, a9⟩
      · rw [a1]
        simp only [bindS]
        have a2' : g_X12_doesAll_26 (g_X12_doesAll_7 f2) at' Mr = g_X12_doesAll_7 f2 at1 Mr1 := a2 _
        rw [a2', w32_id (x := (t : Int) + 1) (by omega) (by omega), show (t : Int) + 1 = ((t + 1 : Nat) : Int) by omega]
        obtain ⟨Mc2, b1, Mr2, b2, b3, b4⟩ := ih (mu - 1) (by omega) f1 f2 (t + 1) Mc1 Mr1 N1 L1 D1 m1 at1 dp1 dn1 st1 e1' a5 a6 (by omega) (by omega) (by omega) (by omega)
        exact ⟨Mc2, b1, Mr2, a3.trans b2, a4.trans b3, b4⟩
      · rw [a1]
        simp only [bindS]
        have a2' : g_X12_doesAll_26 (g_X12_doesAll_7 f2) at' Mr = g_X12_doesAll_7 f2 (-1) Mr1 := a2 _
        obtain ⟨f1, rfl⟩ : ∃ g, f1 = g + 1 := ⟨f1 - 1, by omega⟩
        obtain ⟨f2, rfl⟩ : ∃ g, f2 = g + 1 := ⟨f2 - 1, by omega⟩
        have e3 : g_X11_bundle_65 (f1 + 1) ((t + 1 : Nat) : Int) Mc1 = g_X11_bundle_65B (g_X11_bundle_65 f1) ((t + 1 : Nat) : Int) Mc1 := rfl
        have e4 : g_X12_doesAll_7 (f2 + 1) (-1) Mr1 = g_X12_doesAll_7B (g_X12_doesAll_7 f2) (-1) Mr1 := rfl
        rw [a2', w32_id (x := (t : Int) + 1) (by omega) (by omega), show (t : Int) + 1 = ((t + 1 : Nat) : Int) by omega, e3, e4]
        unfold g_X11_bundle_65B g_X12_doesAll_7B g_X12_doesAll_69 g_X12_doesAll_78
        rw [if_neg (show ¬ (1000 : Int) ≤ ((t + 1 : Nat) : Int) by omega), K_goesOn, if_neg (show ¬ (zI Mc1 9 1 = 0 ∧ (0 < zI Mc1 9 7 ∨ zI Mc1 9 6 < zI Mc1 6 0)) by omega), if_pos (show (-1 : Int) < 0 by omega), if_pos (show (-1 : Int) < 0 by omega), if_pos (Or.inl rfl)]
        simp only [bindS]
        rw [if_pos trivial]
        exact ⟨Mc1, rfl, Mr1, a3, a4, Or.inr ⟨rfl, by rw [a5, a6], by rw [a5]; exact a7, a8, a9⟩⟩
    · have hd0 : dp = 0 := by omega
      rw [show (if True ∧ (0 < (dp : Int) ∨ (at' : Int) < (sz : Int)) then (1 : Int) else 0) = 0 from if_neg (by omega), if_pos rfl, if_neg (show ¬ 0 < (dp : Int) by omega), if_pos (show (sz : Int) ≤ (at' : Int) by omega)]
      unfold g_X12_doesAll_69 g_X12_doesAll_78
      rw [if_neg (show ¬ (at' : Int) < 0 by omega), if_pos (Or.inr rfl)]
      refine ⟨Mc, rfl, Mr, fun _ _ _ _ => sameH.rfl, ⟨fun _ _ _ _ _ => sameH.rfl, fun _ _ _ _ _ _ => rfl, fun _ _ => rfl, fun _ _ => rfl⟩, Or.inl ⟨rfl, z1, by rw [y44, z0], N, L, ?_⟩⟩
      have nob : ∀ q, q < 5 → ¬ m / 2 ^ q % 2 = 1 := fun q hq hb => by
        obtain ⟨j, h1, _⟩ := hlk q hq hb
        omega
      have em : m = 0 := by
        have h32 := hR.2.2.2.2.2.2.2.2.2.1.2.1
        have n0 := nob 0 (by omega)
        have n1 := nob 1 (by omega)
        have n2 := nob 2 (by omega)
        have n3 := nob 3 (by omega)
        have n4 := nob 4 (by omega)
        omega
      obtain ⟨R, RR, K, W, hM, hk, ht', hD, p1, l1, l4, l5⟩ := hR
      rw [em] at l1 l4 l5
      exact ⟨R, RR, K, W, D_zero hM (fun q hq => l5 q hq (by rw [Nat.zero_div]; omega)), hk, ht', D0_le, p1, l1, l4, fun _ _ _ => ⟨rfl, rfl⟩⟩
end BU
