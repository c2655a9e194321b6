/-! what goes between a pool and a purse keeps the money -/
section MG
variable {D : Nat → Nat → Int} {N T : Nat → Int} {L : List (Nat → Int)} {th pe po : Int}
theorem gO2_ud {p per : Nat} (hp : p < 5) (hper : per < 4) (ht : T2 T p) {a b : Int} (a0 : -39999996 ≤ a ∧ a ≤ 39999996) (b0 : -39999996 ≤ b ∧ b ≤ 39999996) (n0 : 0 ≤ N (hc p 0) ∧ N (hc p 0) ≤ 39999996) (n1 : 0 ≤ N (hc p 1) ∧ N (hc p 1) ≤ 39999996) (m0 : 0 ≤ N (uc T p 0 per) ∧ N (uc T p 0 per) ≤ 39999996) (m1 : 0 ≤ N (uc T p 1 per) ∧ N (uc T p 1 per) ≤ 39999996) : gO2 N T p per a b = ud (ud (ud (ud N (hc p 0) (N (hc p 0) - a)) (uc T p 0 per) (N (uc T p 0 per) + a)) (hc p 1) (N (hc p 1) - b)) (uc T p 1 per) (N (uc T p 1 per) + b) := by
  have eu0 : uc T p 0 per = 2 + (5 * per + (T (5 * p)).toNat) := rfl
  have eu1 : uc T p 1 per = 2 + (5 * per + (T (5 * p + 1)).toNat) := rfl
  have eh0 : hc p 0 = 22 + 23 * p + 2 := rfl
  have eh1 : hc p 1 = 22 + 23 * p + 3 := rfl
  obtain ⟨t0, t1, t2⟩ := ht
  funext j
  unfold gO2 gOut ud
  by_cases c1 : j = hc p 1
  · have x1 : ¬ j = uc T p 1 per := by omega
    have x2 : ¬ j = hc p 0 := by omega
    have x3 : ¬ j = uc T p 0 per := by omega
    simp only [if_pos c1, if_neg x1, if_neg x2, if_neg x3]
    rw [c1, w64_id (by omega) (by omega)]
  · by_cases c2 : j = hc p 0
    · have x1 : ¬ j = uc T p 1 per := by omega
      have x3 : ¬ j = uc T p 0 per := by omega
      simp only [if_neg c1, if_neg x1, if_neg x3, if_pos c2]
      rw [c2, w64_id (by omega) (by omega)]
    · by_cases c3 : j = uc T p 1 per
      · have x3 : ¬ j = uc T p 0 per := by omega
        simp only [if_neg c1, if_neg c2, if_pos c3, if_neg x3]
        rw [c3, w64_id (by omega) (by omega)]
      · by_cases c4 : j = uc T p 0 per
        · simp only [if_neg c1, if_neg c2, if_neg c3, if_pos c4]
          rw [c4, w64_id (by omega) (by omega)]
        · simp only [if_neg c1, if_neg c2, if_neg c3, if_neg c4]
theorem Mny_gO2 (h : MnyD D N T L po) {p per : Nat} (hp : p < 5) (hq : (p : Int) < po) (hper : per < 4) (ht : T2 T p) {a b : Int} {L' : List (Nat → Int)}
    (u0 : 0 ≤ N (uc T p 0 per) + a) (u1 : 0 ≤ N (uc T p 1 per) + b) (k0 : 0 ≤ N (hc p 0) - a) (k1 : 0 ≤ N (hc p 1) - b)
    (s0 : (N (22 + 23 * p + (4 + 0)) : Rat) + sumR (claimX p 0 (N (22 + 23 * p)) (N (22 + 23 * p + 1))) L' + (a : Rat) ≤ (N (22 + 23 * p + (2 + 0)) : Rat) + (D p 0 : Rat))
    (s1 : (N (22 + 23 * p + (4 + 1)) : Rat) + sumR (claimX p 1 (N (22 + 23 * p)) (N (22 + 23 * p + 1))) L' + (b : Rat) ≤ (N (22 + 23 * p + (2 + 1)) : Rat) + (D p 1 : Rat))
    (ho : ∀ q k : Nat, q < 5 → (q : Int) < po → q ≠ p → k < 2 → sumR (claimX q k (N (22 + 23 * q)) (N (22 + 23 * q + 1))) L' ≤ sumR (claimX q k (N (22 + 23 * q)) (N (22 + 23 * q + 1))) L)
    (h4 : ∀ s, s ∈ L' → ∀ w, 6 ≤ w → w < 10 → 0 ≤ s w) : MnyD D (gO2 N T p per a b) T L' po := by
  have ht' := ht
  obtain ⟨t0, t1, t2⟩ := ht'
  have eu0 : uc T p 0 per = 2 + (5 * per + (T (5 * p)).toNat) := rfl
  have eu1 : uc T p 1 per = 2 + (5 * per + (T (5 * p + 1)).toNat) := rfl
  have eh0 : hc p 0 = 22 + 23 * p + (2 + 0) := rfl
  have eh1 : hc p 1 = 22 + 23 * p + (2 + 1) := rfl
  have n0 := h.bp hp hq (k := 0) (by omega) t0
  have n1 := h.bp hp hq (k := 1) (by omega) t1
  have n0' := (h.2.1 p 0 hp hq (by omega)).2.1
  have n1' := (h.2.1 p 1 hp hq (by omega)).2.1
  have m0 := h.bu hper (t := (T (5 * p)).toNat) (by omega)
  have m1 := h.bu hper (t := (T (5 * p + 1)).toNat) (by omega)
  have m0' := h.1 (5 * per + (T (5 * p)).toNat) (by omega)
  have m1' := h.1 (5 * per + (T (5 * p + 1)).toNat) (by omega)
  rw [← eh0] at n0 n0'
  rw [← eh1] at n1 n1'
  rw [← eu0] at m0 m0'
  rw [← eu1] at m1 m1'
  have hN := gO2_ud hp hper ht (a := a) (b := b) (N := N) (by omega) (by omega) ⟨n0', n0⟩ ⟨n1', n1⟩ ⟨m0', m0⟩ ⟨m1', m1⟩
  have hcell : ∀ q w, w < 23 → (w < 2 ∨ 4 ≤ w) → gO2 N T p per a b (22 + 23 * q + w) = N (22 + 23 * q + w) := fun q w hw h2 => gO2_rz hper t0 t1 q hw h2
  refine ⟨fun j hj => ?_, fun q k hq5 hqo hk => ?_, fun t htt => ?_, h4⟩
  · rw [hN]
    unfold ud
    have := h.1 j hj
    split
    · omega
    · split
      · omega
      · split
        · omega
        · split <;> omega
  · have hs := h.2.1 q k hq5 hqo hk
    have e4 := hcell q (4 + k) (by omega) (by omega)
    have e0 := hcell q 0 (by omega) (by omega)
    have e1 := hcell q 1 (by omega) (by omega)
    rw [Nat.add_zero] at e0
    unfold SolvD
    rw [e4, e0, e1]
    by_cases c : q = p
    · subst c
      have : k = 0 ∨ k = 1 := by omega
      rcases this with rfl | rfl
      · have e2 : gO2 N T q per a b (22 + 23 * q + (2 + 0)) = N (hc q 0) - a := by
          rw [hN, ← eh0]
          unfold ud
          rw [if_neg (by omega), if_neg (by omega), if_neg (by omega), if_pos rfl]
        rw [e2]
        refine ⟨hs.1, k0, ?_⟩
        rw [Rat.intCast_sub, eh0]
        grind
      · have e2 : gO2 N T q per a b (22 + 23 * q + (2 + 1)) = N (hc q 1) - b := by
          rw [hN, ← eh1]
          unfold ud
          rw [if_neg (by omega), if_pos rfl]
        rw [e2]
        refine ⟨hs.1, k1, ?_⟩
        rw [Rat.intCast_sub, eh1]
        grind
    · have e2 : gO2 N T p per a b (22 + 23 * q + (2 + k)) = N (22 + 23 * q + (2 + k)) := by
        rw [hN]
        unfold ud
        rw [if_neg (by omega), if_neg (by omega), if_neg (by omega), if_neg (by omega)]
      rw [e2]
      refine ⟨hs.1, hs.2.1, ?_⟩
      have h1 := hs.2.2
      have h2 := ho q k hq5 hqo c hk
      unfold SolvD at h1
      grind
  · have h3 := h.2.2.1 t htt
    have x1 := totU (ud (ud (ud N (hc p 0) (N (hc p 0) - a)) (uc T p 0 per) (N (uc T p 0 per) + a)) (hc p 1) (N (hc p 1) - b)) T po hper (t' := (T (5 * p + 1)).toNat) (by omega) (N (uc T p 1 per) + b) htt
    have x2 := totH (ud (ud N (hc p 0) (N (hc p 0) - a)) (uc T p 0 per) (N (uc T p 0 per) + a)) T po hp hq (k := 1) (by omega) (N (hc p 1) - b) htt
    have x3 := totU (ud N (hc p 0) (N (hc p 0) - a)) T po hper (t' := (T (5 * p)).toNat) (by omega) (N (uc T p 0 per) + a) htt
    have x4 := totH N T po hp hq (k := 0) (by omega) (N (hc p 0) - a) htt
    rw [← eu1, ud_ne (show uc T p 1 per ≠ hc p 1 by omega), ud_ne (show uc T p 1 per ≠ uc T p 0 per by omega), ud_ne (show uc T p 1 per ≠ hc p 0 by omega)] at x1
    rw [← eh1, ud_ne (show hc p 1 ≠ uc T p 0 per by omega), ud_ne (show hc p 1 ≠ hc p 0 by omega)] at x2
    rw [← eu0, ud_ne (show uc T p 0 per ≠ hc p 0 by omega)] at x3
    rw [← eh0, Nat.add_zero] at x4
    rw [hN, x1, x2, x3, x4]
    split <;> split <;> split <;> split <;> omega
theorem mem_set {i : Nat} {x s : Nat → Int} (h : s ∈ L.set i x) : s ∈ L ∨ s = x := List.mem_or_eq_of_mem_set h
theorem mem_erase {i : Nat} {s : Nat → Int} (h : s ∈ L.eraseIdx i) : s ∈ L := List.mem_of_mem_eraseIdx h
theorem lie_nn {r z l lo hi : Int} (hR : Rzz r z) (hl : 0 ≤ l ∧ l ≤ 12000000) (ht : 0 ≤ lo ∧ lo < hi ∧ hi ≤ 40) (k u : Int) : 0 ≤ lie r z l lo hi k u := by
  obtain ⟨hz, h1, h2⟩ := hR
  have a1 := rtz_r (t := lo) (by omega) (by omega)
  have a2 := rtz_r (t := hi) (by omega) (by omega)
  have a3 := rtz_lt (a := lo) (b := hi) (by omega) (by omega) (by omega)
  have a4 := rtz_r (t := z) (by omega) (by omega)
  unfold lie
  split
  · split
    · omega
    · have hL : Lab l (if z < lo then rtz lo else r) (rtz hi) := by
        refine ⟨hl, ?_⟩
        have b1 := rtz_le (a := z + 1) (b := if z < hi then hi else z + 1) (by omega) (by split <;> omega) (by split <;> omega)
        rw [if_pos (by omega)] at b1
        split <;> omega
      exact (rdiv_r hL.x.1 hL.p.1 u).1
  · split
    · omega
    · have hL : Lab l (rtz lo) (if hi ≤ z then rtz hi else r) := by
        refine ⟨hl, ?_⟩
        have b1 := rtz_le (a := lo) (b := if lo ≤ z then z else lo) (by omega) (by split <;> omega) (by split <;> omega)
        rw [if_pos (by omega)] at b1
        have b2 := rtz_r (t := z + 1) (by omega) (by omega)
        split <;> omega
      exact (rdiv_r hL.y.1 (by omega) u).1
theorem stl_5 (s : Nat → Int) {w : Nat} (h : w < 6) : stl s w = s w := by
  rw [stl_at, if_neg (by omega), if_neg (by omega), if_neg (by omega)]
theorem stl_ok {s : Nat → Int} (h : Sok pe po s) {v : Int} (hv : 1 ≤ v ∧ v ≤ 999999) : Sok pe po (ud (stl s) 5 v) := by
  obtain ⟨a, b, c, d, e, f⟩ := h
  have e0 : ud (stl s) 5 v 0 = s 0 := rfl
  have e1 : ud (stl s) 5 v 1 = s 1 := rfl
  have e2 : ud (stl s) 5 v 2 = s 2 := rfl
  have e3 : ud (stl s) 5 v 3 = s 3 := rfl
  have e4 : ud (stl s) 5 v 4 = s 4 := rfl
  have e5 : ud (stl s) 5 v 5 = v := rfl
  refine ⟨by rw [e0]; exact a, by rw [e1]; exact b, by rw [e2, e3]; exact c, by rw [e4]; exact d, by rw [e5]; exact hv, fun w => ?_⟩
  by_cases c5 : w = 5
  · subst c5; rw [e5]; exact w64_id (by omega) (by omega)
  · rw [ud_ne c5, stl_at]
    have ww : ∀ x : Int, w64 (w64 x) = w64 x := by
      intro x
      have := w64_d x
      rw [w64_iff]
      exact this
    split
    · rfl
    · split
      · exact ww _
      · split
        · exact ww _
        · exact f w
theorem WF.len (W : WF N T L th pe po) {i : Nat} (hi : i < L.length) : (2 ≤ th ∧ th ≤ 5) ∧ (1 ≤ pe ∧ pe ≤ 4) ∧ (0 ≤ po ∧ po ≤ 5) := by
  rcases W.1 with ⟨_, _, _, e⟩ | h
  · subst e; cases hi
  · exact h
theorem oweX_stl (s : Nat → Int) (v : Int) {k : Nat} (hk : k < 2) : oweX k (ud (stl s) 5 v) = ((owd s k : Int) : Rat) := by
  have : k = 0 ∨ k = 1 := by omega
  rcases this with rfl | rfl
  · show ((owd s 0 : Int) : Rat) + ((v : Int) : Rat) * ((0 : Int) : Rat) / 1048576 = _
    rw [Rat.intCast_zero]
    grind
  · show ((owd s 1 : Int) : Rat) + ((v : Int) : Rat) * ((0 : Int) : Rat) / 1048576 = _
    rw [Rat.intCast_zero]
    grind
theorem gO2_lo {p per : Nat} {a b : Int} {j : Nat} (hj : j < 2) : gO2 N T p per a b j = N j := by
  unfold gO2
  rw [gOut_0 (by omega) hj, gOut_0 (by omega) hj]
theorem take_money (W : WF N T L th pe po) (h : MnyD D N T L po) (hD : ∀ p k, D p k ≤ 39999996) {i : Nat} (hi : i < L.length) {l : Int} (h1 : 1 ≤ l) (h2 : l ≤ L.getD i d0 5) (hd : D (L.getD i d0 1).toNat 0 = 0 ∧ D (L.getD i d0 1).toNat 1 = 0) : MnyD D (tkN N T L i l) T (tkL L i l) po ∧ WF (tkN N T L i l) T (tkL L i l) th pe po ∧ (∀ j, j < 2 → tkN N T L i l j = N j) ∧ (∀ q w, w < 23 → (w < 2 ∨ 4 ≤ w) → tkN N T L i l (22 + 23 * q + w) = N (22 + 23 * q + w)) := by
  have hz := W.len hi
  have hs := W.2.2 _ (getD_mem hi)
  have hmem := getD_mem hi
  have hset := fun (f : (Nat → Int) → Rat) x => sumR_set (f := f) hi x
  have herase := fun (f : (Nat → Int) → Rat) => sumR_erase (f := f) hi
  unfold tkN tkL tkA
  generalize es : L.getD i d0 = s at *
  obtain ⟨p, ep⟩ := zR_nat hs.2.1.1
  obtain ⟨per, eper⟩ := zR_nat hs.1.1
  have hp : p < 5 := by have := hs.2.1; omega
  have hq : (p : Int) < po := by have := hs.2.1; omega
  have hper : per < 4 := by have := hs.1; omega
  have ht := W.t2 hp hq
  have hrz : Rzz (N (22 + 23 * p)) (N (22 + 23 * p + 1)) := (W.2.1 p hp hq).2
  rw [ep, Int.toNat_natCast] at hd
  rw [ep, eper, Int.toNat_natCast, Int.toNat_natCast]
  have hl : 0 ≤ l ∧ l ≤ 12000000 := by have := hs.2.2.2.2.1; omega
  have o0 := owd_ok W.2.2 h hD hp hq (k := 0) (by omega) ht.1 hrz hmem ep
  have o1 := owd_ok W.2.2 h hD hp hq (k := 1) (by omega) ht.2.1 hrz hmem ep
  have q0 : ((lie (N (22 + 23 * p)) (N (22 + 23 * p + 1)) l (s 2) (s 3) 0 0 : Int) : Rat) ≤ (l : Rat) * uX 0 (N (22 + 23 * p)) (N (22 + 23 * p + 1)) (s 2) (s 3) := lie_lo hrz hl hs.2.2.1 (k := 0) (by omega)
  have q1 : ((lie (N (22 + 23 * p)) (N (22 + 23 * p + 1)) l (s 2) (s 3) 1 0 : Int) : Rat) ≤ (l : Rat) * uX 1 (N (22 + 23 * p)) (N (22 + 23 * p + 1)) (s 2) (s 3) := lie_lo hrz hl hs.2.2.1 (k := 1) (by omega)
  have p0 := lie_nn hrz hl hs.2.2.1 0 0
  have p1 := lie_nn hrz hl hs.2.2.1 1 0
  generalize lie (N (22 + 23 * p)) (N (22 + 23 * p + 1)) l (s 2) (s 3) 0 0 = x0 at *
  generalize lie (N (22 + 23 * p)) (N (22 + 23 * p + 1)) l (s 2) (s 3) 1 0 = x1 at *
  have S0 := (h.2.1 p 0 hp hq (by omega))
  have S1 := (h.2.1 p 1 hp hq (by omega))
  have S0' := S0.2.2
  have S1' := S1.2.2
  unfold SolvD at S0' S1'
  rw [hd.1, Rat.intCast_zero] at S0'
  rw [hd.2, Rat.intCast_zero] at S1'
  have cl : ∀ k, claimX p k (N (22 + 23 * p)) (N (22 + 23 * p + 1)) s = oweX k s + (s 5 : Rat) * uX k (N (22 + 23 * p)) (N (22 + 23 * p + 1)) (s 2) (s 3) := fun k => if_pos ep
  have hoth : ∀ (q : Nat) k r z (x : Nat → Int), q ≠ p → x 1 = p → claimX q k r z x = 0 := fun q k r z x hqp hx => if_neg (by omega)
  have m0' := h.1 (5 * per + (T (5 * p)).toNat) (by have := ht.1; omega)
  have m1' := h.1 (5 * per + (T (5 * p + 1)).toNat) (by have := ht.2.1; omega)
  have m0 : 0 ≤ N (uc T p 0 per) := m0'
  have m1 : 0 ≤ N (uc T p 1 per) := m1'
  have hcells : ∀ (a b : Int) q w, w < 23 → (w < 2 ∨ 4 ≤ w) → gO2 N T p per a b (22 + 23 * q + w) = N (22 + 23 * q + w) := fun a b q w hw hw2 => gO2_rz hper ht.1 ht.2.1 q hw hw2
  have hWF : ∀ (a b : Int) (L' : List (Nat → Int)), (∀ x, x ∈ L' → Sok pe po x) → WF (gO2 N T p per a b) T L' th pe po := by
    intro a b L' hL'
    refine ⟨Or.inr hz, fun q hq5 hqo => ⟨(W.2.1 q hq5 hqo).1, ?_⟩, hL'⟩
    have := (W.2.1 q hq5 hqo).2
    unfold Rz at *
    have e0 := hcells a b q 0 (by omega) (by omega)
    rw [Nat.add_zero] at e0
    rw [e0, hcells a b q 1 (by omega) (by omega)]
    exact this
  have nn0 := claim_nn W.2.2 h.2.2.2 hrz p (k := 0) (by omega)
  have nn1 := claim_nn W.2.2 h.2.2.2 hrz p (k := 1) (by omega)
  have g0 := Rat.intCast_nonneg.mpr S0.1
  have g1 := Rat.intCast_nonneg.mpr S1.1
  by_cases c : l < s 5
  · rw [if_pos c, if_pos c]
    have hok : Sok pe po (ud (stl s) 5 (s 5 - l)) := stl_ok hs (by have := hs.2.2.2.2.1; omega)
    have hL' : ∀ x, x ∈ L.set i (ud (stl s) 5 (s 5 - l)) → Sok pe po x := fun x hx => by
      rcases mem_set hx with e | e
      · exact W.2.2 x e
      · subst e; exact hok
    have h4' : ∀ x, x ∈ L.set i (ud (stl s) 5 (s 5 - l)) → ∀ w, 6 ≤ w → w < 10 → 0 ≤ x w := fun x hx w w6 w10 => by
      rcases mem_set hx with e | e
      · exact h.2.2.2 x e w w6 w10
      · subst e
        rw [ud_ne (by omega), stl_at]
        split
        · omega
        · split
          · exact o0.1
          · split
            · exact o1.1
            · omega
    have cl' : ∀ k, k < 2 → claimX p k (N (22 + 23 * p)) (N (22 + 23 * p + 1)) (ud (stl s) 5 (s 5 - l)) = ((owd s k : Int) : Rat) + ((s 5 : Rat) - (l : Rat)) * uX k (N (22 + 23 * p)) (N (22 + 23 * p + 1)) (s 2) (s 3) := by
      intro k hk
      have e1 : claimX p k (N (22 + 23 * p)) (N (22 + 23 * p + 1)) (ud (stl s) 5 (s 5 - l)) = oweX k (ud (stl s) 5 (s 5 - l)) + ((s 5 - l : Int) : Rat) * uX k (N (22 + 23 * p)) (N (22 + 23 * p + 1)) (s 2) (s 3) := if_pos ep
      rw [e1, oweX_stl s _ hk, Rat.intCast_sub]
    have z0 := hset (claimX p 0 (N (22 + 23 * p)) (N (22 + 23 * p + 1))) (ud (stl s) 5 (s 5 - l))
    have z1 := hset (claimX p 1 (N (22 + 23 * p)) (N (22 + 23 * p + 1))) (ud (stl s) 5 (s 5 - l))
    rw [cl 0, cl' 0 (by omega)] at z0
    rw [cl 1, cl' 1 (by omega)] at z1
    have nn0' := sumR_nn (claim_nn hL' h4' hrz p (k := 0) (by omega))
    have nn1' := sumR_nn (claim_nn hL' h4' hrz p (k := 1) (by omega))
    refine ⟨Mny_gO2 h hp hq hper ht (by omega) (by omega) ?_ ?_ ?_ ?_ ?_ h4', hWF _ _ _ hL', fun j hj => gO2_lo hj, hcells _ _⟩
    · have : (x0 : Rat) ≤ (N (22 + 23 * p + (2 + 0)) : Rat) := by grind
      have := Rat.intCast_le_intCast.mp this
      show 0 ≤ N (22 + 23 * p + (2 + 0)) - x0
      omega
    · have : (x1 : Rat) ≤ (N (22 + 23 * p + (2 + 1)) : Rat) := by grind
      have := Rat.intCast_le_intCast.mp this
      show 0 ≤ N (22 + 23 * p + (2 + 1)) - x1
      omega
    · rw [hd.1, Rat.intCast_zero]
      grind
    · rw [hd.2, Rat.intCast_zero]
      grind
    · intro q k hq5 hqo hqp hk
      rw [hset, hoth q k _ _ s hqp ep, hoth q k _ _ (ud (stl s) 5 (s 5 - l)) hqp ep]
      grind
  · rw [if_neg c, if_neg c]
    have hl5 : l = s 5 := by omega
    have hL' : ∀ x, x ∈ L.eraseIdx i → Sok pe po x := fun x hx => W.2.2 x (mem_erase hx)
    have h4' : ∀ x, x ∈ L.eraseIdx i → ∀ w, 6 ≤ w → w < 10 → 0 ≤ x w := fun x hx => h.2.2.2 x (mem_erase hx)
    have z0 := herase (claimX p 0 (N (22 + 23 * p)) (N (22 + 23 * p + 1)))
    have z1 := herase (claimX p 1 (N (22 + 23 * p)) (N (22 + 23 * p + 1)))
    rw [cl 0] at z0
    rw [cl 1] at z1
    rw [hl5] at q0 q1
    have nn0' := sumR_nn (claim_nn hL' h4' hrz p (k := 0) (by omega))
    have nn1' := sumR_nn (claim_nn hL' h4' hrz p (k := 1) (by omega))
    refine ⟨Mny_gO2 h hp hq hper ht (by omega) (by omega) ?_ ?_ ?_ ?_ ?_ h4', hWF _ _ _ hL', fun j hj => gO2_lo hj, hcells _ _⟩
    · have : ((x0 + owd s 0 : Int) : Rat) ≤ (N (22 + 23 * p + (2 + 0)) : Rat) := by
        rw [Rat.intCast_add]
        grind
      have := Rat.intCast_le_intCast.mp this
      show 0 ≤ N (22 + 23 * p + (2 + 0)) - (x0 + owd s 0)
      omega
    · have : ((x1 + owd s 1 : Int) : Rat) ≤ (N (22 + 23 * p + (2 + 1)) : Rat) := by
        rw [Rat.intCast_add]
        grind
      have := Rat.intCast_le_intCast.mp this
      show 0 ≤ N (22 + 23 * p + (2 + 1)) - (x1 + owd s 1)
      omega
    · rw [hd.1, Rat.intCast_zero, Rat.intCast_add]
      grind
    · rw [hd.2, Rat.intCast_zero, Rat.intCast_add]
      grind
    · intro q k hq5 hqo hqp hk
      rw [herase, hoth q k _ _ s hqp ep]
      grind
end MG
