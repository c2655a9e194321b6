/-! the start of a swap done, and the whole of it -/
section ST1
variable {M : MZ} {b : Nat} {kk : Bool} {N N1 T : Nat → Int} {L : List (Nat → Int)} {th pe po : Int}
/-- what a mark does to the market b -/
def MkO (kk : Bool) (M : MZ) (b p : Nat) (N1 T : Nat → Int) (L : List (Nat → Int)) (th pe po t : Int) : Prop := ∀ M0 : MZ, (∀ x, x ≠ 4 → sameH M M0 x) → ∃ M1, g_X4_mark (b + 2 + 2 + 5 * p) t M0 = some ((), M1) ∧ Rep kk M1 b N1 T L th pe po ∧ FrB b M0 M1
theorem MkO_true (hb : bOK b) (R : Rep true M b N T L th pe po) {p : Nat} (hp : p < 5) (hq : (p : Int) < po) (m : Mrk N p) (hz : 0 ≤ N (22 + 23 * p + 1) ∧ N (22 + 23 * p + 1) < 40) (hN : N 0 ≤ 9999999) : MkO true M b p (mkN N p) T L th pe po (N 0) := fun _ h => K_mark hb (R.not4 hb h) hp hq m hz hN
theorem K_start1 (hb : bOK b) (R : Rep kk M b N T L th pe po) {p : Nat} (hp : p < 5) (hq : (p : Int) < po) (hm : MkO kk M b p N1 T L th pe po (N 0)) {side : Int} (hs : side = 0 ∨ side = 1) (amount : Int) : ∃ M', g_X10_start b p side amount 1 M = some (1, M') ∧ TP M' b p side 1 false (w32 (N (22 + 23 * p)), w32 (N (22 + 23 * p + 1)), amount, 0, 0, 0, 0) ∧ Rep kk M' b N1 T L th pe po ∧ (∀ x, x ≠ 4 → ¬ (b ≤ x ∧ x < b + 65) → sameH M M' x) := by
  have hk := kdp hb hp
  have hne : b + 2 + 2 + 5 * p ≠ 4 := by rcases hb with rfl | rfl <;> omega
  have hb4 : b ≠ 4 := by rcases hb with rfl | rfl <;> omega
  have hb4' : ¬ (b ≤ 4 ∧ 4 < b + 65) := by rcases hb with rfl | rfl <;> omega
  generalize eMM : uL (uL (uL (uL (uI (uI (uI (uI (uI (uR (uR M 4 0 b) 4 1 (b + 2 + 2 + 5 * p)) 4 2 p) 4 3 side) 4 4 1) 4 6 0) 4 9 0) 4 10 amount) 4 11 0) 4 12 0) 4 13 0 = MM
  have fM : ∀ x, x ≠ 4 → sameH M MM x := fun x hx => by
    rw [← eMM]
    exact ((((((((((sameH_uR hx).trans (sameH_uR hx)).trans (sameH_uI hx)).trans (sameH_uI hx)).trans (sameH_uI hx)).trans (sameH_uI hx)).trans (sameH_uI hx)).trans (sameH_uL hx)).trans (sameH_uL hx)).trans (sameH_uL hx)).trans (sameH_uL hx)
  have r0 : zR MM 4 0 = b := by rw [← eMM]; rfl
  have r1 : zR MM 4 1 = b + 2 + 2 + 5 * p := by rw [← eMM]; rfl
  have i2 : zI MM 4 2 = p := by rw [← eMM]; rfl
  have i3 : zI MM 4 3 = side := by rw [← eMM]; rfl
  have i4 : zI MM 4 4 = 1 := by rw [← eMM]; rfl
  have i6 : zI MM 4 6 = 0 := by rw [← eMM]; rfl
  have i9 : zI MM 4 9 = 0 := by rw [← eMM]; rfl
  have l10 : zL MM 4 10 = amount := by rw [← eMM]; rfl
  have l11 : zL MM 4 11 = 0 := by rw [← eMM]; rfl
  have l12 : zL MM 4 12 = 0 := by rw [← eMM]; rfl
  have l13 : zL MM 4 13 = 0 := by rw [← eMM]; rfl
  have p5 : zI MM (b + 2 + 2 + 5 * p) 5 = w32 (N (22 + 23 * p)) := by rw [(fM _ hne 5).1]; exact K_root R hp hq
  have p6 : zI MM (b + 2 + 2 + 5 * p) 6 = w32 (N (22 + 23 * p + 1)) := by rw [(fM _ hne 6).1]; exact K_zone R hp hq
  have b4 : zI MM b 4 = N 0 := by rw [(fM _ hb4 4).1]; exact R.1.2.2.2.2.1
  generalize eMF : uI (uI MM 4 5 (w32 (N (22 + 23 * p)))) 4 8 (w32 (N (22 + 23 * p + 1))) = MF
  have fF : ∀ x, x ≠ 4 → sameH M MF x := fun x hx => by rw [← eMF]; exact ((fM x hx).trans (sameH_uI hx)).trans (sameH_uI hx)
  obtain ⟨M1, a1, a2, a3⟩ := hm MF fF
  have s4 := a3 4 hb4'
  have TF : TP MF b p side 1 false (w32 (N (22 + 23 * p)), w32 (N (22 + 23 * p + 1)), amount, 0, 0, 0, 0) := by
    rw [← eMF]
    refine ⟨⟨r0, r1, ?_, ?_, ?_, ?_, ?_, l10, l11⟩, l12, l13, ?_, ?_⟩
    · rw [zI_uI, if_neg (by omega), zI_uI, if_neg (by omega)]; exact i2
    · rw [zI_uI, if_neg (by omega), zI_uI, if_neg (by omega)]; exact i3
    · rw [zI_uI, if_neg (by omega), zI_uI, if_neg (by omega)]; exact i4
    · rw [zI_uI, if_neg (by omega)]; exact zI_at _ _ _ _
    · exact zI_at _ _ _ _
    · rw [zI_uI, if_neg (by omega), zI_uI, if_neg (by omega)]; exact i9
    · rw [zI_uI, if_neg (by omega), zI_uI, if_neg (by omega)]; exact i6
  refine ⟨M1, ?_, ?_, a2, fun x h1 h2 => (fF x h1).trans (a3 x h2)⟩
  · have ep : g_X2_poolAt b p (uR M 4 0 b) = some (b + 2 + 2 + 5 * p, uR M 4 0 b) := K_poolAt_y hb hp (by rw [zI_uR, R.1.2.2.1]; exact hq)
    have e5 : zR (uI MM 4 5 (w32 (N (22 + 23 * p)))) 4 1 = b + 2 + 2 + 5 * p := r1
    have e6 : zI (uI MM 4 5 (w32 (N (22 + 23 * p)))) (b + 2 + 2 + 5 * p) 6 = w32 (N (22 + 23 * p + 1)) := by rw [zI_uI, if_neg (fun q => hne q.1)]; exact p6
    have e4 : zI MF 4 4 = 1 := TF.1.2.2.2.2.1
    have e1 : zR MF 4 1 = b + 2 + 2 + 5 * p := TF.1.2.1
    have eb : zI MF b 4 = N 0 := by rw [(fF b hb4 4).1]; exact R.1.2.2.2.2.1
    unfold g_X10_start g_X10_start_24 g_X10_start_40 g_X10_start_56 g_X10_start_120 g_X10_start_78
    rw [if_pos (kdb hb), ep]
    simp only [bindS]
    rw [if_pos (Or.inr trivial), eMM, r1, if_neg (by omega), i3, K_isSide]
    simp only [bindS, bI_0]
    rw [if_neg (fun q => q hs), r1, if_pos hk, p5, e5, if_pos hk, e6, eMF, e4, if_neg (show ¬ (1 : Int) = 0 by omega), if_pos (kdb hb), e1, if_pos hk, eb, a1]
    simp only [bindS]
  · obtain ⟨⟨u0, u1, u2, u3, u4, u5, u8, u10, u11⟩, u12, u13, u9, u6⟩ := TF
    exact ⟨⟨by rw [(s4 0).2.2]; exact u0, by rw [(s4 1).2.2]; exact u1, by rw [(s4 2).1]; exact u2, by rw [(s4 3).1]; exact u3, by rw [(s4 4).1]; exact u4, by rw [(s4 5).1]; exact u5, by rw [(s4 8).1]; exact u8, by rw [(s4 10).2.1]; exact u10, by rw [(s4 11).2.1]; exact u11⟩, by rw [(s4 12).2.1]; exact u12, by rw [(s4 13).2.1]; exact u13, by rw [(s4 9).1]; exact u9, by rw [(s4 6).1]; exact u6⟩
/-- from the first step to the purses -/
theorem K_real_run (hb : bOK b) (R1 : Rep kk M b N1 T L th pe po) (W1 : WF N1 T L th pe po) {p : Nat} {side e o amount : Int} (hpb : Pbg p po side e o) (ha : 0 < amount ∧ amount ≤ 10000000000) (hS : TP M b p side 1 (ae0 N1 p side e) (xr N1 p, xz N1 p, amount, 0, 0, 0, 0)) (per : Int) : ∃ MF, loopO o 100000 per e 0 M = ((g_X10_finish_76 per MF).bind fun q => some ((), q.2)) ∧ Rep kk MF b (swap N1 T L p side amount e o).1 T (swap N1 T L p side amount e o).2.1 th pe po ∧ WF (swap N1 T L p side amount e o).1 T (swap N1 T L p side amount e o).2.1 th pe po ∧ (∃ ae, TP MF b p side 1 ae (toP p (swap N1 T L p side amount e o))) ∧ (∀ x, x ≠ 4 → ¬ (b ≤ x ∧ x < b + 65) → sameH M MF x) := by
  have hpb' := hpb
  obtain ⟨hp, hq, hs, _, he⟩ := hpb'
  obtain ⟨hk, hk2⟩ := xk_r hs
  have hb4' : ¬ (b ≤ 4 ∧ 4 < b + 65) := by rcases hb with rfl | rfl <;> omega
  have hrz : Rzz (xr N1 p) (xz N1 p) := (W1.2.1 p hp hq).2
  have hz := hrz.1
  have hm : swm p side e (ae0 N1 p side e) (N1, L, amount, 0, 0, 0, 0) ≤ (50 : Nat) := by
    unfold swm
    split
    · omega
    · split
      · show xz N1 p - e + 1 ≤ _; omega
      · show e - xz N1 p ≤ _; omega
  have hP0 : Pd (dlt p (xk side) 0 0 0) N1 N1 := ⟨fun j => by unfold dlt; split <;> split <;> split <;> omega, fun _ _ => rfl⟩
  obtain ⟨M2, ae, N2, c1, c2, c3, c4, c5, c6⟩ := K_real_loop hb hpb per 50 100000 0 M (ae0 N1 p side e) (N1, L, amount, 0, 0, 0, 0) N1 hm (by omega) (by omega) R1 hP0 W1 hS ⟨fun q => ae0_ge hs q, by show 0 ≤ amount ∧ amount ≤ 10000000000; omega⟩
  have es : swp T p side e o 50 (ae0 N1 p side e) (N1, L, amount, 0, 0, 0, 0) = swap N1 T L p side amount e o := rfl
  rw [es] at c2 c3 c4 c5
  have c5' := c5
  obtain ⟨⟨u0, u1, u2, u3, u4, u5, u8, u10, u11⟩, u12, u13, u9, u6⟩ := c5'
  obtain ⟨MF, f1, f2, f3⟩ := K_finishA hb hp hq hk2 c2 c3 hk.symm u0 u1 u3 u4 u9 u11 u12 per
  have s4 := f3 4 hb4'
  refine ⟨MF, ?_, f2, c4, ⟨ae, ?_⟩, fun x h1 h2 => (c6 x h1 h2).trans (f3 x h2)⟩
  · rw [show ((0 : Nat) : Int) = 0 from rfl] at c1
    rw [c1]
    unfold finO
    rw [f1]
  · exact ⟨⟨by rw [(s4 0).2.2]; exact u0, by rw [(s4 1).2.2]; exact u1, by rw [(s4 2).1]; exact u2, by rw [(s4 3).1]; exact u3, by rw [(s4 4).1]; exact u4, by rw [(s4 5).1]; exact u5, by rw [(s4 8).1]; exact u8, by rw [(s4 10).2.1]; exact u10, by rw [(s4 11).2.1]; exact u11⟩, by rw [(s4 12).2.1]; exact u12, by rw [(s4 13).2.1]; exact u13, by rw [(s4 9).1]; exact u9, by rw [(s4 6).1]; exact u6⟩
end ST1
