/-! take, pay, levy -/
theorem Mrk_cg {N N' : Nat → Int} {p : Nat} (h0 : N' 0 = N 0) (h : ∀ w, w < 23 → 4 ≤ w → N' (22 + 23 * p + w) = N (22 + 23 * p + w)) (m : Mrk N p) : Mrk N' p := by
  obtain ⟨n1, n2, n3, n4⟩ := m
  have e6 := h 6 (by omega) (by omega)
  refine ⟨by rw [e6]; exact n1, by rw [h 7 (by omega) (by omega), h 8 (by omega) (by omega)]; exact n2, fun i hi => ?_, fun i hi => ?_⟩
  · rw [e6] at hi
    rw [h (7 + 2 * i) (by omega) (by omega), h (7 + 2 * (i + 1)) (by omega) (by omega), h (8 + 2 * i) (by omega) (by omega), h (8 + 2 * (i + 1)) (by omega) (by omega)]
    exact n3 i hi
  · rw [e6] at hi
    rw [h (7 + 2 * i) (by omega) (by omega), h0]
    exact n4 i hi
theorem IV_mk {M M1 M2 : MZ} {N T : Nat → Int} {L : List (Nat → Int)} {th pe po : Int} (F1 : FrB 78 M M1) (F2 : Fr23 M1 M2) (R : Rep true M1 78 N T L th pe po) (RR : RepR M2 N T L th pe po) (W : WF N T L th pe po) (hM : Mny N T L po) (hk : ∀ p : Nat, p < 5 → (p : Int) < po → Mrk N p) (ht : 0 ≤ N 0 ∧ N 0 ≤ 9999999) (hH : HP M 143) (K : KON M) (hA : TAP M) : IV M2 := by
  have hs : ∀ h, ¬ (78 ≤ h ∧ h < 143) → h ≠ 23 → sameH M M2 h := fun h h1 h2 => (F1 h (by omega)).trans (F2 h h2)
  refine ⟨N, T, L, th, pe, po, R.same (fun h h1 h2 => F2 h (by omega)), RR, W, hM, hk, ht, HP.same (fun i _ => (hs 146 (by omega) (by omega) i).2.2) hH, K.mv (fun x hx => hs x (by omega) (by omega)), ?_⟩
  have e2 := hs 2 (by omega) (by omega)
  have e3 := hs 3 (by omega) (by omega)
  have e20 := hs 20 (by omega) (by omega)
  have e25 := hs 25 (by omega) (by omega)
  exact ⟨by rw [(e2 0).1]; exact hA.1, by rw [(e20 8).1, (e2 0).1]; exact hA.2.1, fun j hj => by rw [(e25 j).1, (e3 j).1]; exact hA.2.2 j hj⟩
theorem RR_of {M M1 : MZ} {N T : Nat → Int} {L : List (Nat → Int)} {th pe po : Int} (F : FrB 78 M M1) (RR : RepR M N T L th pe po) : RepR M1 N T L th pe po := RR.same (fun h h1 h2 => F h (by omega))
theorem K_of {M M1 : MZ} (F : FrB 78 M M1) (K : KON M) : KON M1 := K.mv (fun x hx => F x (by omega))
theorem q_take {M : MZ} (h : IV M) (i l : Int) : ∃ r M1 M2, g_X11_take i l M = some (r, M1) ∧ g_X12_take i l M1 = some (r, M2) ∧ IV M2 := by
  have h0 := h
  obtain ⟨N, T, L, th, pe, po, R, RR, W, hM, hk, ht, hH, K, hA⟩ := h
  have h12 := R.2.2.2.2.2.2
  unfold g_X11_take g_X11_take_26 g_X12_take g_X12_take_23
  by_cases hi : 0 ≤ i ∧ i < L.length
  · obtain ⟨i, rfl⟩ := zR_nat hi.1
    have hl : i < L.length := by omega
    have hkd := R.2.2.2.2.2.1.kd b78 (show i < 12 by omega)
    have hne : zR M (78 + 3) i ≠ 0 := by have := R.2.2.2.2.2.1.rng (show i < 12 by omega); omega
    have es : g_X12_ofStake i 5 M = some (L.getD i d0 5, M) := R_stk RR hl (by omega) (by omega)
    rw [K_stakeAt_y b78 (by omega) (by rw [R.1.2.2.2.1]; exact hi.2)]
    simp only [bindS]
    rw [if_neg hne, if_pos hkd, K_sI R hl (w := 5) (by omega)]
    by_cases hc : 1 ≤ l ∧ l ≤ L.getD i d0 5
    · rw [if_neg (by omega), if_pos hc.2]
      obtain ⟨M1, e1, R1, F1⟩ := K_withdraw b78 R W hl hc.1 hc.2
      obtain ⟨M2, e2, R2, F2⟩ := R_takesOut (RR_of F1 RR) (K_of F1 K) W hl hc.1 hc.2
      obtain ⟨m1, m2, m3, m4⟩ := take_money W hM (fun _ _ => by show (0 : Int) ≤ _; omega) hl hc.1 hc.2 ⟨rfl, rfl⟩
      have RR1 := RR_of F1 RR
      have es1 : g_X12_ofStake i 5 M1 = some (L.getD i d0 5, M1) := R_stk RR1 hl (by omega) (by omega)
      refine ⟨((tkL L i l).length : Int), M1, M2, ?_, ?_, ?_⟩
      · rw [e1]
        simp only [bindS]
        rw [R1.1.2.2.2.1]
      · rw [R_isStake RR1]
        simp only [bindS, bI_0]
        rw [if_neg (fun q => q hi), es1]
        simp only [bindS]
        rw [R_isIn]
        simp only [bindS, bI_0]
        rw [if_neg (fun q => q hc), e2]
        simp only [bindS]
        rw [R_stakes R2]
        simp only [bindS]
      · exact IV_mk F1 F2 R1 R2 m2 m1 (fun p hp hq => Mrk_cg (m3 0 (by omega)) (fun w w1 w2 => m4 p w w1 (Or.inr w2)) (hk p hp hq)) (by rw [m3 0 (by omega)]; exact ht) hH K hA
    · refine ⟨-1, M, M, ?_, ?_, h0⟩
      · split
        · rfl
        · rw [if_neg (by omega)]
      · rw [R_isStake RR]
        simp only [bindS, bI_0]
        rw [if_neg (fun q => q hi), es]
        simp only [bindS]
        rw [R_isIn]
        simp only [bindS, bI_0]
        rw [if_pos hc]
  · refine ⟨-1, M, M, ?_, ?_, h0⟩
    · rw [K_stakeAt_n b78 (by rw [R.1.2.2.2.1]; exact hi)]
      simp only [bindS]
      rw [if_pos trivial]
    · rw [R_isStake RR]
      simp only [bindS, bI_0]
      rw [if_pos hi]
theorem ok_take (a b : Int32) : SO INV (f_X11_take a b) (f_X12_take a b) := SO_of (IV := IV) (fun _ => l_X11_take rfl rfl rfl) (fun _ => l_X12_take rfl rfl rfl) (fun _ h => q_take h _ _)
/-- paid out -/
def pyS (s : Nat → Int) : Nat → Int := ud (ud (stl s) 8 0) 9 0
theorem pyS_at (s : Nat → Int) (w : Nat) : pyS s w = if 6 ≤ w ∧ w < 10 then 0 else s w := by
  unfold pyS ud
  by_cases c : 6 ≤ w ∧ w < 10
  · rw [if_pos c]
    by_cases c9 : w = 9
    · rw [if_pos c9]
    · rw [if_neg c9]
      by_cases c8 : w = 8
      · rw [if_pos c8]
      · rw [if_neg c8, stl_at, if_pos (by omega)]
  · rw [if_neg c, if_neg (by omega), if_neg (by omega), stl_at, if_neg (by omega), if_neg (by omega), if_neg (by omega)]
theorem pay_money {D : Nat → Nat → Int} {N T : Nat → Int} {L : List (Nat → Int)} {th pe po : Int} (W : WF N T L th pe po) (h : MnyD D N T L po) (hD : ∀ p k, D p k ≤ 39999996) {i p per : Nat} (hi : i < L.length) (ep : L.getD i d0 1 = p) (eper : L.getD i d0 0 = per) (hd : D p 0 = 0 ∧ D p 1 = 0) : MnyD D (gO2 N T p per (owd (L.getD i d0) 0) (owd (L.getD i d0) 1)) T (L.set i (pyS (L.getD i d0))) po ∧ WF (gO2 N T p per (owd (L.getD i d0) 0) (owd (L.getD i d0) 1)) T (L.set i (pyS (L.getD i d0))) th pe po := by
  have hz := W.len hi
  have hs := W.2.2 _ (getD_mem hi)
  have hmem := getD_mem hi
  have hset := fun (f : (Nat → Int) → Rat) x => sumR_set (f := f) hi x
  generalize es : L.getD i d0 = s at *
  have hp : p < 5 := by have := hs.2.1; omega
  have hq : (p : Int) < po := by have := hs.2.1; omega
  have hper : per < 4 := by have := hs.1; omega
  have ht := W.t2 hp hq
  have hrz : Rzz (N (22 + 23 * p)) (N (22 + 23 * p + 1)) := (W.2.1 p hp hq).2
  have o0 := owd_ok W.2.2 h hD hp hq (k := 0) (by omega) ht.1 hrz hmem ep
  have o1 := owd_ok W.2.2 h hD hp hq (k := 1) (by omega) ht.2.1 hrz hmem ep
  have S0 := (h.2.1 p 0 hp hq (by omega))
  have S1 := (h.2.1 p 1 hp hq (by omega))
  have S0' := S0.2.2
  have S1' := S1.2.2
  unfold SolvD at S0' S1'
  rw [hd.1, Rat.intCast_zero] at S0'
  rw [hd.2, Rat.intCast_zero] at S1'
  have hok : Sok pe po (pyS s) := by
    obtain ⟨a, b, c, d, e, f⟩ := hs
    have ee : ∀ w, w < 6 → pyS s w = s w := fun w hw => by rw [pyS_at, if_neg (by omega)]
    refine ⟨by rw [ee 0 (by omega)]; exact a, by rw [ee 1 (by omega)]; exact b, by rw [ee 2 (by omega), ee 3 (by omega)]; exact c, by rw [ee 4 (by omega)]; exact d, by rw [ee 5 (by omega)]; exact e, fun w => ?_⟩
    rw [pyS_at]
    split
    · rfl
    · exact f w
  have hL' : ∀ x, x ∈ L.set i (pyS s) → Sok pe po x := fun x hx => by
    rcases mem_set hx with e | e
    · exact W.2.2 x e
    · subst e; exact hok
  have h4' : ∀ x, x ∈ L.set i (pyS s) → ∀ w, 6 ≤ w → w < 10 → 0 ≤ x w := fun x hx w w6 w10 => by
    rcases mem_set hx with e | e
    · exact h.2.2.2 x e w w6 w10
    · subst e
      rw [pyS_at, if_pos ⟨w6, w10⟩]
      omega
  have cl : ∀ k, claimX p k (N (22 + 23 * p)) (N (22 + 23 * p + 1)) s = oweX k s + (s 5 : Rat) * uX k (N (22 + 23 * p)) (N (22 + 23 * p + 1)) (s 2) (s 3) := fun k => if_pos ep
  have cl0 : claimX p 0 (N (22 + 23 * p)) (N (22 + 23 * p + 1)) (pyS s) = (s 5 : Rat) * uX 0 (N (22 + 23 * p)) (N (22 + 23 * p + 1)) (s 2) (s 3) := by
    have e1 : claimX p 0 (N (22 + 23 * p)) (N (22 + 23 * p + 1)) (pyS s) = ((0 : Int) : Rat) + (s 5 : Rat) * ((0 : Int) : Rat) / 1048576 + (s 5 : Rat) * uX 0 (N (22 + 23 * p)) (N (22 + 23 * p + 1)) (s 2) (s 3) := if_pos ep
    rw [e1, Rat.intCast_zero]
    grind
  have cl1 : claimX p 1 (N (22 + 23 * p)) (N (22 + 23 * p + 1)) (pyS s) = (s 5 : Rat) * uX 1 (N (22 + 23 * p)) (N (22 + 23 * p + 1)) (s 2) (s 3) := by
    have e1 : claimX p 1 (N (22 + 23 * p)) (N (22 + 23 * p + 1)) (pyS s) = ((0 : Int) : Rat) + (s 5 : Rat) * ((0 : Int) : Rat) / 1048576 + (s 5 : Rat) * uX 1 (N (22 + 23 * p)) (N (22 + 23 * p + 1)) (s 2) (s 3) := if_pos ep
    rw [e1, Rat.intCast_zero]
    grind
  have z0 := hset (claimX p 0 (N (22 + 23 * p)) (N (22 + 23 * p + 1))) (pyS s)
  have z1 := hset (claimX p 1 (N (22 + 23 * p)) (N (22 + 23 * p + 1))) (pyS s)
  rw [cl 0, cl0] at z0
  rw [cl 1, cl1] at z1
  have nn0' := sumR_nn (claim_nn hL' h4' hrz p (k := 0) (by omega))
  have nn1' := sumR_nn (claim_nn hL' h4' hrz p (k := 1) (by omega))
  have g0 := Rat.intCast_nonneg.mpr S0.1
  have g1 := Rat.intCast_nonneg.mpr S1.1
  have m0 : 0 ≤ N (uc T p 0 per) := h.1 (5 * per + (T (5 * p)).toNat) (by have := ht.1; omega)
  have m1 : 0 ≤ N (uc T p 1 per) := h.1 (5 * per + (T (5 * p + 1)).toNat) (by have := ht.2.1; omega)
  have hcells : ∀ q w, w < 23 → (w < 2 ∨ 4 ≤ w) → gO2 N T p per (owd s 0) (owd s 1) (22 + 23 * q + w) = N (22 + 23 * q + w) := fun q w hw hw2 => gO2_rz hper ht.1 ht.2.1 q hw hw2
  refine ⟨Mny_gO2 h hp hq hper ht (by omega) (by omega) ?_ ?_ ?_ ?_ ?_ h4', ⟨Or.inr hz, fun q hq5 hqo => ⟨(W.2.1 q hq5 hqo).1, ?_⟩, hL'⟩⟩
  · have : ((owd s 0 : Int) : Rat) ≤ (N (22 + 23 * p + (2 + 0)) : Rat) := by grind
    have := Rat.intCast_le_intCast.mp this
    show 0 ≤ N (22 + 23 * p + (2 + 0)) - owd s 0
    omega
  · have : ((owd s 1 : Int) : Rat) ≤ (N (22 + 23 * p + (2 + 1)) : Rat) := by grind
    have := Rat.intCast_le_intCast.mp this
    show 0 ≤ N (22 + 23 * p + (2 + 1)) - owd s 1
    omega
  · rw [hd.1, Rat.intCast_zero]
    grind
  · rw [hd.2, Rat.intCast_zero]
    grind
  · intro q k hq5 hqo hqp hk
    have x1 : claimX q k (N (22 + 23 * q)) (N (22 + 23 * q + 1)) s = 0 := if_neg (by omega)
    have x2 : claimX q k (N (22 + 23 * q)) (N (22 + 23 * q + 1)) (pyS s) = 0 := if_neg (by show ¬ s 1 = (q : Int); omega)
    rw [hset, x1, x2]
    grind
  · have := (W.2.1 q hq5 hqo).2
    unfold Rz at *
    have e0 := hcells q 0 (by omega) (by omega)
    rw [Nat.add_zero] at e0
    rw [e0, hcells q 1 (by omega) (by omega)]
    exact this
theorem q_pay {M : MZ} (h : IV M) (i : Int) : ∃ r M1 M2, g_X11_pay i M = some (r, M1) ∧ g_X12_pay i M1 = some (r, M2) ∧ IV M2 := by
  have h0 := h
  obtain ⟨N, T, L, th, pe, po, R, RR, W, hM, hk, ht, hH, K, hA⟩ := h
  have h12 := R.2.2.2.2.2.2
  have hz := W.1.r
  unfold g_X11_pay g_X12_pay
  by_cases hi : 0 ≤ i ∧ i < L.length
  · obtain ⟨i, rfl⟩ := zR_nat hi.1
    have hl : i < L.length := by omega
    have hs := W.2.2 _ (getD_mem hl)
    obtain ⟨p, ep⟩ := zR_nat hs.2.1.1
    obtain ⟨per, eper⟩ := zR_nat hs.1.1
    have hp : p < 5 := by have := hs.2.1; omega
    have hq : (p : Int) < po := by have := hs.2.1; omega
    have hper : per < 4 := by have := hs.1; omega
    have htt := W.t2 hp hq
    have hkd := R.2.2.2.2.2.1.kd b78 (show i < 12 by omega)
    have hrg := R.2.2.2.2.2.1.rng (show i < 12 by omega)
    have hmon := pay_money W hM (fun _ _ => by show (0 : Int) ≤ _; omega) hl ep eper ⟨rfl, rfl⟩
    have z1 : zI M (zR M (78 + 3) i) 1 = (p : Int) := by rw [K_sI R hl (by omega), ep]
    obtain ⟨M1, a1, R1, F1, Z1⟩ := K_settle b78 R hl
    generalize es : L.getD i d0 = s at *
    have hl1 : i < (L.set i (stl s)).length := by rw [List.length_set]; exact hl
    have g1 : (L.set i (stl s)).getD i d0 = stl s := by rw [getD_set hl, if_pos rfl]
    have x8 : zL M1 (zR M (78 + 3) i + 2) 0 = owd s 0 := by rw [← Z1, K_sD R1 hl1 (by omega), g1]; rfl
    have x9 : zL M1 (zR M (78 + 3) i + 2) 1 = owd s 1 := by rw [← Z1, K_sD R1 hl1 (by omega), g1]; rfl
    have x0 : zI M1 (zR M (78 + 3) i) 0 = (per : Int) := by rw [← Z1, K_sI R1 hl1 (by omega), g1, ← eper]; rfl
    obtain ⟨M2, a2, R2, F2, Z2⟩ := K_payOut b78 R1 (k := 0) hp hq (by omega) hper htt.1 (x := w32 (owd s 0)) (v := owd s 0) (w32_w32 _)
    have a2' : g_X2_payOut 78 (78 + 2 + 2 + 5 * p) 0 per (w32 (owd s 0)) M1 = some ((), M2) := a2
    have y0 : zI M2 (zR M (78 + 3) i) 0 = (per : Int) := by rw [← Z1, ← Z2, K_sI R2 hl1 (by omega), g1, ← eper]; rfl
    obtain ⟨M3, a3, R3, F3, Z3⟩ := K_payOut b78 R2 (k := 1) hp hq (by omega) hper htt.2.1 (x := w32 (owd s 1)) (v := owd s 1) (w32_w32 _)
    have a3' : g_X2_payOut 78 (78 + 2 + 2 + 5 * p) 1 per (w32 (owd s 1)) M2 = some ((), M3) := a3
    have hh3 : zR M3 (78 + 3) i = zR M (78 + 3) i := by rw [Z3, Z2, Z1]
    have R4 := R3.stake2 hl (w := 8) (by omega) 0 hh3
    have R5 := R4.stake2 hl (w := 9) (by omega) 0 ((zR_uS _ _ _ _ _ _).trans hh3)
    have F5 : FrB 78 M (uS (uS M3 (zR M (78 + 3) i) 8 0) (zR M (78 + 3) i) 9 0) := (((F1.trans F2).trans F3).trans (FrB_uS (by omega))).trans (FrB_uS (by omega))
    have RR5 := RR_of F5 RR
    obtain ⟨M6, b1, R6, G6⟩ := R_settles RR5 hl
    rw [es] at R6
    obtain ⟨M7, b2, R7, G7⟩ := R_paysOut R6 hl1 hp hper htt g1 (by rw [← ep]; rfl) (by rw [← eper]; rfl)
    rw [List.set_set] at R7
    refine ⟨w32 (owd s 0 + owd s 1), uS (uS M3 (zR M (78 + 3) i) 8 0) (zR M (78 + 3) i) 9 0, M7, ?_, ?_, ?_⟩
    · rw [K_stakeAt_y b78 (by omega) (by rw [R.1.2.2.2.1]; exact hi.2)]
      simp only [bindS]
      unfold g_X11_pay_28 g_X11_pay_48 g_X11_pay_57
      rw [if_neg (by omega), if_pos hkd, z1, K_poolAt_y b78 hp (by rw [R.1.2.2.1]; exact hq)]
      simp only [bindS]
      rw [if_neg (by omega), if_pos hkd, a1]
      simp only [bindS]
      rw [if_pos hkd, if_pos hkd, x8, x9, x0, a2']
      simp only [bindS]
      rw [y0, a3']
      simp only [bindS]
      rw [w32_al, w32_ar]
      rfl
    · rw [R_isStake RR5]
      simp only [bindS, bI_0]
      rw [if_neg (fun q => q hi), b1]
      simp only [bindS]
      rw [b2]
      simp only [bindS]
      have e8 : stl s 8 = owd s 0 := rfl
      have e9 : stl s 9 = owd s 1 := rfl
      rw [e8, e9, w32_w64, Int.zero_add, show w32 (w64 (owd s 0) + owd s 1) = w32 (owd s 0 + owd s 1) from w32_add_cg (w32_w64 _) rfl]
    · have hcells : ∀ q w, w < 23 → (w < 2 ∨ 4 ≤ w) → gO2 N T p per (owd s 0) (owd s 1) (22 + 23 * q + w) = N (22 + 23 * q + w) := fun q w hw hw2 => gO2_rz hper htt.1 htt.2.1 q hw hw2
      exact IV_mk (N := gO2 N T p per (owd s 0) (owd s 1)) F5 (G6.trans G7) R5 R7 hmon.2 hmon.1 (fun q hq5 hqo => Mrk_cg (gO2_lo (by omega)) (fun w w1 w2 => hcells q w w1 (Or.inr w2)) (hk q hq5 hqo)) (by rw [gO2_lo (by omega)]; exact ht) hH K hA
  · refine ⟨-1, M, M, ?_, ?_, h0⟩
    · rw [K_stakeAt_n b78 (by rw [R.1.2.2.2.1]; exact hi)]
      simp only [bindS]
      rw [if_pos trivial]
      unfold g_X11_pay_28
      rw [if_pos rfl]
    · rw [R_isStake RR]
      simp only [bindS, bI_0]
      rw [if_pos hi]
theorem ok_pay (a : Int32) : SO INV (f_X11_pay a) (f_X12_pay a) := SO_of (IV := IV) (fun _ => l_X11_pay rfl rfl) (fun _ => l_X12_pay rfl rfl) (fun _ h => q_pay h _)
