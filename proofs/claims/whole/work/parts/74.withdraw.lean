/-! the same, as the developers have it -/
section WD
variable {M : MZ} {b : Nat} {kk : Bool} {N T : Nat → Int} {L : List (Nat → Int)} {th pe po : Int}
theorem K_lie2 (hb : bOK b) (R : Rep kk M b N T L th pe po) {i p h : Nat} (hh : zR M (b + 3) i = h) (hi : i < L.length) (hp : p < 5) (hq : (p : Int) < po) {r z : Int} (er : N (22 + 23 * p) = r) (ez : N (22 + 23 * p + 1) = z) (hRz : Rzz r z) {l : Int} (hl : 0 ≤ l ∧ l ≤ 12000000) {lo hi' : Int} (e2 : L.getD i d0 2 = lo) (e3 : L.getD i d0 3 = hi') (ht : 0 ≤ lo ∧ lo < hi' ∧ hi' ≤ 40) (k u : Int) : g_X7_liesIn h (b + 2 + 2 + 5 * p) l k u M = some (lie r z l lo hi' k u, M) := by
  subst hh
  have h12 := R.2.2.2.2.2.2
  have h1 := hRz.1
  have h2 := hRz.2
  have a1 := rtz_r (t := z) (by omega) (by omega)
  have a2 := rtz_r (t := z + 1) (by omega) (by omega)
  exact K_liesIn (R.2.2.2.2.2.1.kd hb (by omega)) (kdp hb hp) (by rw [K_root R hp hq, er, w32_id (by omega) (by omega)]) (by rw [K_zone R hp hq, ez, w32_id (by omega) (by omega)]) (by rw [K_sI R hi (by omega), e2]) (by rw [K_sI R hi (by omega), e3]) hRz hl ht k u
theorem K_withdraw (hb : bOK b) (R : Rep kk M b N T L th pe po) (W : WF N T L th pe po) {i : Nat} (hi : i < L.length) {l : Int} (h1 : 1 ≤ l) (h2 : l ≤ L.getD i d0 5) : ∃ M', g_X2_withdraw b i l M = some ((), M') ∧ Rep kk M' b (tkN N T L i l) T (tkL L i l) th pe po ∧ FrB b M M' := by
  have h12 := R.2.2.2.2.2.2
  have hi12 : i < 12 := by omega
  have hz := W.1.r
  have hs := W.2.2 _ (getD_mem hi)
  unfold tkN tkL tkA
  generalize es : L.getD i d0 = s at *
  obtain ⟨p, ep⟩ := zR_nat hs.2.1.1
  obtain ⟨per, eper⟩ := zR_nat hs.1.1
  have hp : p < 5 := by have := hs.2.1; omega
  have hq : (p : Int) < po := by have := hs.2.1; omega
  have hper : per < 4 := by have := hs.1; omega
  have ht := W.t2 hp hq
  have hrz := (W.2.1 p hp hq).2
  rw [ep, eper, Int.toNat_natCast, Int.toNat_natCast]
  have hkd := R.2.2.2.2.2.1.kd hb hi12
  have hrg := R.2.2.2.2.2.1.rng hi12
  have z1 : zI M (zR M (b + 3) i) 1 = (p : Int) := by rw [K_sI R hi (by omega), es, ep]
  obtain ⟨M1, a1, R1, F1, Z1⟩ := K_settle hb R hi
  rw [es] at R1
  generalize eh : zR M (b + 3) i = h at *
  have hh1 : zR M1 (b + 3) i = h := by rw [Z1, eh]
  have hl1 : i < (L.set i (stl s)).length := by rw [List.length_set]; exact hi
  have g1 : (L.set i (stl s)).getD i d0 = stl s := by rw [getD_set hi, if_pos rfl]
  have hl : 0 ≤ l ∧ l ≤ 12000000 := by have := hs.2.2.2.2.1; omega
  have htk : 0 ≤ s 2 ∧ s 2 < s 3 ∧ s 3 ≤ 40 := by have := hs.2.2.1; omega
  have y1 := K_lie2 hb R1 hh1 hl1 hp hq rfl rfl hrz hl (lo := s 2) (hi' := s 3) (by rw [g1]; rfl) (by rw [g1]; rfl) htk 0 0
  have v5 : zI M1 h 5 = s 5 := by rw [← hh1, K_sI R1 hl1 (by omega), g1]; rfl
  have v0 : zI M1 h 0 = (per : Int) := by rw [← hh1, K_sI R1 hl1 (by omega), g1, ← eper]; rfl
  have v8 : zL M1 (h + 2) 0 = owd s 0 := by rw [← hh1, K_sD R1 hl1 (by omega), g1]; rfl
  have hne : ¬ b + 2 + 2 + 5 * p = 0 := by omega
  have hstart : g_X2_withdraw b i l M = (if l < s 5 then g_X2_withdraw_52 100000 b i l h (b + 2 + 2 + 5 * p) 0 0 M1 else g_X2_withdraw_52 100000 b i l h (b + 2 + 2 + 5 * p) 1 0 M1) := by
    unfold g_X2_withdraw g_X2_withdraw_22 g_X2_withdraw_47
    rw [if_pos (kdb hb), K_stakeAt_y hb hi12 (by rw [R.1.2.2.2.1]; omega), eh]
    simp only [bindS]
    rw [if_neg (by omega), if_pos hkd, z1, K_poolAt_y hb hp (by rw [R.1.2.2.1]; exact hq)]
    simp only [bindS]
    rw [if_neg hne, if_pos hkd, a1]
    simp only [bindS]
    rw [v5]
  have e : ∀ (f : Nat) (fl k : Int) (M : MZ), g_X2_withdraw_52 (f + 1) b i l h (b + 2 + 2 + 5 * p) fl k M = g_X2_withdraw_52B (g_X2_withdraw_52 f) b i l h (b + 2 + 2 + 5 * p) fl k M := fun _ _ _ _ => rfl
  rw [hstart]
  by_cases hc : l < s 5
  · rw [if_pos hc, if_pos hc, if_pos hc]
    generalize ex0 : lie (N (22 + 23 * p)) (N (22 + 23 * p + 1)) l (s 2) (s 3) 0 0 = x0 at *
    generalize ex1 : lie (N (22 + 23 * p)) (N (22 + 23 * p + 1)) l (s 2) (s 3) 1 0 = x1 at *
    obtain ⟨M2, a2, R2, F2, Z2⟩ := K_payOut hb R1 (k := 0) hp hq (by omega) hper ht.1 (x := w32 (w64 (x0 + 0))) (v := x0) (by rw [w32_w32, w32_w64, Int.add_zero])
    have a2' : g_X2_payOut b (b + 2 + 2 + 5 * p) 0 per (w32 (w64 (x0 + 0))) M1 = some ((), M2) := a2
    have hh2 : zR M2 (b + 3) i = h := by rw [Z2, hh1]
    have er0 : gOut N T p 0 per x0 (22 + 23 * p) = N (22 + 23 * p) := gOut_rz (by omega) hper ht.1 p (w := 0) (by omega) (Or.inl (by omega))
    have er1 : gOut N T p 0 per x0 (22 + 23 * p + 1) = N (22 + 23 * p + 1) := gOut_rz (by omega) hper ht.1 p (w := 1) (by omega) (Or.inl (by omega))
    have y2 := K_lie2 hb R2 hh2 hl1 hp hq er0 er1 hrz hl (lo := s 2) (hi' := s 3) (by rw [g1]; rfl) (by rw [g1]; rfl) htk 1 0
    rw [ex1] at y2
    have u0 : zI M2 h 0 = (per : Int) := by rw [← hh2, K_sI R2 hl1 (by omega), g1, ← eper]; rfl
    obtain ⟨M3, a3, R3, F3, Z3⟩ := K_payOut hb R2 (k := 1) hp hq (by omega) hper ht.2.1 (x := w32 (w64 (x1 + 0))) (v := x1) (by rw [w32_w32, w32_w64, Int.add_zero])
    have a3' : g_X2_payOut b (b + 2 + 2 + 5 * p) 1 per (w32 (w64 (x1 + 0))) M2 = some ((), M3) := a3
    have hh3 : zR M3 (b + 3) i = h := by rw [Z3, hh2]
    have t5 : zI M3 h 5 = s 5 := by rw [← hh3, K_sI R3 hl1 (by omega), g1]; rfl
    have R4 := R3.stake2 hi (w := 5) (by omega) (s 5 - l) hh3
    refine ⟨_, ?_, R4, ((F1.trans F2).trans F3).trans (FrB_uS (by omega))⟩
    have s0 : ∀ f : Nat, g_X2_withdraw_52 (f + 1) b i l h (b + 2 + 2 + 5 * p) 0 0 M1 = g_X2_withdraw_52 f b i l h (b + 2 + 2 + 5 * p) 0 1 M2 := by
      intro f
      rw [e]
      unfold g_X2_withdraw_52B g_X2_withdraw_85 g_X2_withdraw_88
      rw [if_neg (by omega), if_pos hkd, y1]
      simp only [bindS]
      rw [if_pos trivial, if_pos hkd, if_pos (kdb hb), v0, a2']
      simp only [bindS]
      rw [w32_id (x := 0 + 1) (by omega) (by omega)]
      rfl
    have s1 : ∀ f : Nat, g_X2_withdraw_52 (f + 1) b i l h (b + 2 + 2 + 5 * p) 0 1 M2 = g_X2_withdraw_52 f b i l h (b + 2 + 2 + 5 * p) 0 2 M3 := by
      intro f
      rw [e]
      unfold g_X2_withdraw_52B g_X2_withdraw_85 g_X2_withdraw_88
      rw [if_neg (by omega), if_pos hkd, y2]
      simp only [bindS]
      rw [if_pos trivial, if_pos hkd, if_pos (kdb hb), u0, a3']
      simp only [bindS]
      rw [w32_id (x := 1 + 1) (by omega) (by omega)]
      rfl
    have s2 : ∀ f : Nat, g_X2_withdraw_52 (f + 1) b i l h (b + 2 + 2 + 5 * p) 0 2 M3 = some ((), uS M3 h 5 (s 5 - l)) := by
      intro f
      rw [e]
      unfold g_X2_withdraw_52B g_X2_withdraw_129
      rw [if_pos (by omega), if_pos hkd, if_pos rfl, t5, w32_id (by have := hs.2.2.2.2.1; omega) (by have := hs.2.2.2.2.1; omega)]
      rfl
    exact (s0 99999).trans ((s1 99998).trans (s2 99997))
  · rw [if_neg hc, if_neg hc, if_neg hc]
    generalize ex0 : lie (N (22 + 23 * p)) (N (22 + 23 * p + 1)) l (s 2) (s 3) 0 0 = x0 at *
    generalize ex1 : lie (N (22 + 23 * p)) (N (22 + 23 * p + 1)) l (s 2) (s 3) 1 0 = x1 at *
    obtain ⟨M2, a2, R2, F2, Z2⟩ := K_payOut hb R1 (k := 0) hp hq (by omega) hper ht.1 (x := w32 (w64 (x0 + owd s 0))) (v := x0 + owd s 0) (by rw [w32_w32, w32_w64])
    have a2' : g_X2_payOut b (b + 2 + 2 + 5 * p) 0 per (w32 (w64 (x0 + owd s 0))) M1 = some ((), M2) := a2
    have hh2 : zR M2 (b + 3) i = h := by rw [Z2, hh1]
    have er0 : gOut N T p 0 per (x0 + owd s 0) (22 + 23 * p) = N (22 + 23 * p) := gOut_rz (by omega) hper ht.1 p (w := 0) (by omega) (Or.inl (by omega))
    have er1 : gOut N T p 0 per (x0 + owd s 0) (22 + 23 * p + 1) = N (22 + 23 * p + 1) := gOut_rz (by omega) hper ht.1 p (w := 1) (by omega) (Or.inl (by omega))
    have y2 := K_lie2 hb R2 hh2 hl1 hp hq er0 er1 hrz hl (lo := s 2) (hi' := s 3) (by rw [g1]; rfl) (by rw [g1]; rfl) htk 1 0
    rw [ex1] at y2
    have u0 : zI M2 h 0 = (per : Int) := by rw [← hh2, K_sI R2 hl1 (by omega), g1, ← eper]; rfl
    have u9 : zL M2 (h + 2) 1 = owd s 1 := by rw [← hh2, K_sD R2 hl1 (by omega), g1]; rfl
    obtain ⟨M3, a3, R3, F3, Z3⟩ := K_payOut hb R2 (k := 1) hp hq (by omega) hper ht.2.1 (x := w32 (w64 (x1 + owd s 1))) (v := x1 + owd s 1) (by rw [w32_w32, w32_w64])
    have a3' : g_X2_payOut b (b + 2 + 2 + 5 * p) 1 per (w32 (w64 (x1 + owd s 1))) M2 = some ((), M3) := a3
    have hh3 : zR M3 (b + 3) i = h := by rw [Z3, hh2]
    have t5 : zI M3 h 5 = s 5 := by rw [← hh3, K_sI R3 hl1 (by omega), g1]; rfl
    have R4 := R3.stake2 hi (w := 5) (by omega) (s 5 - l) hh3
    obtain ⟨M5, a5, R5, F5⟩ := K_remove hb R4 (i := i) (by rw [List.length_set]; exact hi)
    have er : (L.set i (ud (stl s) 5 (s 5 - l))).eraseIdx i = L.eraseIdx i := by
      apply List.ext_getElem?
      intro x
      rw [List.getElem?_eraseIdx, List.getElem?_eraseIdx]
      split
      · rw [List.getElem?_set, if_neg (by omega)]
      · rw [List.getElem?_set, if_neg (by omega)]
    rw [er] at R5
    refine ⟨M5, ?_, R5, (((F1.trans F2).trans F3).trans (FrB_uS (by omega))).trans F5⟩
    have s0 : ∀ f : Nat, g_X2_withdraw_52 (f + 1) b i l h (b + 2 + 2 + 5 * p) 1 0 M1 = g_X2_withdraw_52 f b i l h (b + 2 + 2 + 5 * p) 1 1 M2 := by
      intro f
      rw [e]
      unfold g_X2_withdraw_52B g_X2_withdraw_85 g_X2_withdraw_88
      rw [if_neg (by omega), if_pos hkd, y1]
      simp only [bindS]
      rw [if_neg (by omega), if_pos (by omega), if_pos hkd, if_pos (kdb hb), v0, show (0 : Int).toNat = 0 from rfl, v8, a2']
      simp only [bindS]
      rw [w32_id (x := 0 + 1) (by omega) (by omega)]
      rfl
    have s1 : ∀ f : Nat, g_X2_withdraw_52 (f + 1) b i l h (b + 2 + 2 + 5 * p) 1 1 M2 = g_X2_withdraw_52 f b i l h (b + 2 + 2 + 5 * p) 1 2 M3 := by
      intro f
      rw [e]
      unfold g_X2_withdraw_52B g_X2_withdraw_85 g_X2_withdraw_88
      rw [if_neg (by omega), if_pos hkd, y2]
      simp only [bindS]
      rw [if_neg (by omega), if_pos (by omega), if_pos hkd, if_pos (kdb hb), u0, show (1 : Int).toNat = 1 from rfl, u9, a3']
      simp only [bindS]
      rw [w32_id (x := 1 + 1) (by omega) (by omega)]
      rfl
    have s2 : ∀ f : Nat, g_X2_withdraw_52 (f + 1) b i l h (b + 2 + 2 + 5 * p) 1 2 M3 = some ((), M5) := by
      intro f
      rw [e]
      unfold g_X2_withdraw_52B g_X2_withdraw_129
      have a5' : g_X2_remove b i (uI M3 h 5 (s 5 - l)) = some ((), M5) := a5
      rw [if_pos (by omega), if_pos hkd, if_neg (by omega), if_pos (kdb hb), t5, w32_id (by have := hs.2.2.2.2.1; omega) (by have := hs.2.2.2.2.1; omega), a5']
      simp only [bindS]
    exact (s0 99999).trans ((s1 99998).trans (s2 99997))
end WD
