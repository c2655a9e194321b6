/-! taking out of a stake -/
theorem gOut_ne {N T : Nat → Int} {p k per : Nat} {v : Int} {j : Nat} (h1 : j ≠ hc p k) (h2 : j ≠ uc T p k per) : gOut N T p k per v j = N j := by
  unfold gOut
  rw [if_neg h1, if_neg h2]
theorem gOut_rz {N T : Nat → Int} {p k per : Nat} {v : Int} (hk : k < 2) (hper : per < 4) (ht : 0 ≤ T (5 * p + k) ∧ T (5 * p + k) < 5) (q : Nat) {w : Nat} (hw : w < 23) (hw2 : w < 2 ∨ 4 ≤ w) : gOut N T p k per v (22 + 23 * q + w) = N (22 + 23 * q + w) := gOut_ne (by unfold hc; omega) (by unfold uc; omega)
theorem gOut_0 {N T : Nat → Int} {p k per : Nat} {v : Int} (hk : k < 2) {j : Nat} (hj : j < 2) : gOut N T p k per v j = N j := gOut_ne (by unfold hc; omega) (by unfold uc; omega)
def gO2 (N T : Nat → Int) (p per : Nat) (a b : Int) : Nat → Int := gOut (gOut N T p 0 per a) T p 1 per b
theorem gO2_rz {N T : Nat → Int} {p per : Nat} {a b : Int} (hper : per < 4) (h0 : 0 ≤ T (5 * p) ∧ T (5 * p) < 5) (h1 : 0 ≤ T (5 * p + 1) ∧ T (5 * p + 1) < 5) (q : Nat) {w : Nat} (hw : w < 23) (hw2 : w < 2 ∨ 4 ≤ w) : gO2 N T p per a b (22 + 23 * q + w) = N (22 + 23 * q + w) := by
  unfold gO2
  rw [gOut_rz (by omega) hper h1 q hw hw2, gOut_rz (by omega) hper h0 q hw hw2]
theorem gO2_add {N T : Nat → Int} {p per : Nat} (hper : per < 4) (h0 : 0 ≤ T (5 * p) ∧ T (5 * p) < 5) (h1 : 0 ≤ T (5 * p + 1) ∧ T (5 * p + 1) < 5) (hne : T (5 * p) ≠ T (5 * p + 1)) (a b c d : Int) : gO2 (gO2 N T p per a b) T p per c d = gO2 N T p per (a + c) (b + d) := by
  have m1 : ∀ x y z : Int, w64 (w64 (x - y) - z) = w64 (x - (y + z)) := by
    intro x y z
    have := w64_d (x - y)
    rw [w64_iff]
    omega
  have m2 : ∀ x y z : Int, w64 (w64 (x + y) + z) = w64 (x + (y + z)) := by
    intro x y z
    have := w64_d (x + y)
    rw [w64_iff]
    omega
  funext j
  have eu0 : uc T p 0 per = 2 + (5 * per + (T (5 * p)).toNat) := rfl
  have eu1 : uc T p 1 per = 2 + (5 * per + (T (5 * p + 1)).toNat) := rfl
  have eh0 : hc p 0 = 22 + 23 * p + 2 := rfl
  have eh1 : hc p 1 = 22 + 23 * p + 3 := rfl
  unfold gO2 gOut
  by_cases c1 : j = hc p 1
  · simp only [if_pos c1, if_neg (show ¬ j = hc p 0 by omega), if_neg (show ¬ j = uc T p 0 per by omega), m1]
  · by_cases c2 : j = hc p 0
    · simp only [if_neg c1, if_neg (show ¬ j = uc T p 1 per by omega), if_pos c2, m1]
    · by_cases c3 : j = uc T p 1 per
      · simp only [if_neg c1, if_neg c2, if_pos c3, if_neg (show ¬ j = uc T p 0 per by omega), m2]
      · by_cases c4 : j = uc T p 0 per
        · simp only [if_neg c1, if_neg c2, if_neg c3, if_pos c4, m2]
        · simp only [if_neg c1, if_neg c2, if_neg c3, if_neg c4]
section TK
variable {M : MZ} {b : Nat} {kk : Bool} {N T : Nat → Int} {L : List (Nat → Int)} {th pe po : Int}
/-- the two things of a pool are things -/
def T2 (T : Nat → Int) (p : Nat) : Prop := (0 ≤ T (5 * p) ∧ T (5 * p) < 5) ∧ (0 ≤ T (5 * p + 1) ∧ T (5 * p + 1) < 5) ∧ T (5 * p) ≠ T (5 * p + 1)
theorem WF.t2 (W : WF N T L th pe po) {p : Nat} (hp : p < 5) (hq : (p : Int) < po) : T2 T p := by
  have h := (W.2.1 p hp hq).1
  have hz := W.1.r
  obtain ⟨a, c, d, -⟩ := h
  exact ⟨by omega, by omega, d⟩
theorem R_goes2 (R : RepR M N T L th pe po) {p per : Nat} (hp : p < 5) (hper : per < 4) (ht : T2 T p) (x y : Int) : ∃ M1 M2, g_X12_goesOut p per 0 x M = some ((), M1) ∧ RepR M1 (gOut N T p 0 per x) T L th pe po ∧ g_X12_goesOut p per 1 y M1 = some ((), M2) ∧ RepR M2 (gO2 N T p per x y) T L th pe po ∧ Fr23 M M1 ∧ Fr23 M1 M2 := by
  obtain ⟨M1, e1, R1, F1⟩ := R_goesOut R (k := 0) hp (by omega) hper ht.1 x
  obtain ⟨M2, e2, R2, F2⟩ := R_goesOut R1 (k := 1) hp (by omega) hper ht.2.1 y
  exact ⟨M1, M2, e1, R1, e2, R2, F1, F2⟩
theorem R_paysOut (R : RepR M N T L th pe po) {i p per : Nat} (hi : i < L.length) (hp : p < 5) (hper : per < 4) (ht : T2 T p) {s : Nat → Int} (es : L.getD i d0 = s) (e1 : s 1 = p) (e0 : s 0 = per) : ∃ M', g_X12_paysOut i M = some (w64 (w64 (0 + s 8) + s 9), M') ∧ RepR M' (gO2 N T p per (s 8) (s 9)) T (L.set i (ud (ud s 8 0) 9 0)) th pe po ∧ Fr23 M M' := by
  have h12 := R.2.2.2.2.2
  have hi12 : i < 12 := by omega
  have e : ∀ (f : Nat) (v k : Int) (M : MZ), g_X12_paysOut_5 (f + 1) i v k M = g_X12_paysOut_5B (g_X12_paysOut_5 f) i v k M := fun _ _ _ _ => rfl
  obtain ⟨M1, a1, R1, F1⟩ := R_goesOut R (k := 0) hp (by omega) hper ht.1 (s 8)
  have a1' : g_X12_goesOut p per 0 (s 8) M = some ((), M1) := a1
  have R0 : RepR M1 (gOut N T p 0 per (s 8)) T (L.set i s) th pe po := by
    have el : L.set i s = L := by rw [← es]; exact set_self hi
    rw [el]; exact R1
  have R2 := R0.stake2 hi (w := 8) (by omega) 0
  obtain ⟨M3, a3, R3, F3⟩ := R_goesOut R2 (k := 1) hp (by omega) hper ht.2.1 (s 9)
  have a3' : g_X12_goesOut p per 1 (s 9) (uL M1 23 (138 + 10 * i + 8) 0) = some ((), M3) := a3
  have R4 := R3.stake2 hi (w := 9) (by omega) 0
  refine ⟨_, ?_, R4, ((F1.trans Fr23_u).trans F3).trans Fr23_u⟩
  have hl2 : i < (L.set i (ud s 8 0)).length := by rw [List.length_set]; exact hi
  have k0 : g_X12_ofStake i 8 M = some (s 8, M) := by rw [R_stk R hi (by omega) (by omega), es]; rfl
  have k1 : g_X12_ofStake i 1 M = some ((p : Int), M) := by rw [R_stk R hi (by omega) (by omega), es, ← e1]; rfl
  have k2 : g_X12_ofStake i 0 M = some ((per : Int), M) := by rw [R_stk R hi (by omega) (by omega), es, ← e0]; rfl
  have j0 : g_X12_ofStake i 9 (uL M1 23 (138 + 10 * i + 8) 0) = some (s 9, uL M1 23 (138 + 10 * i + 8) 0) := by rw [R_stk R2 hl2 (by omega) (by omega), getD_set hi, if_pos rfl]; rfl
  have j1 : g_X12_ofStake i 1 (uL M1 23 (138 + 10 * i + 8) 0) = some ((p : Int), uL M1 23 (138 + 10 * i + 8) 0) := by rw [R_stk R2 hl2 (by omega) (by omega), getD_set hi, if_pos rfl, ← e1]; rfl
  have j2 : g_X12_ofStake i 0 (uL M1 23 (138 + 10 * i + 8) 0) = some ((per : Int), uL M1 23 (138 + 10 * i + 8) 0) := by rw [R_stk R2 hl2 (by omega) (by omega), getD_set hi, if_pos rfl, ← e0]; rfl
  have wp : w32 (p : Int) = p := w32_id (by omega) (by omega)
  have wr : w32 (per : Int) = per := w32_id (by omega) (by omega)
  have s0 : ∀ f : Nat, g_X12_paysOut_5 (f + 1) i 0 0 M = g_X12_paysOut_5 f i (w64 (0 + s 8)) 1 (uL M1 23 (138 + 10 * i + 8) 0) := by
    intro f
    rw [e]
    unfold g_X12_paysOut_5B g_X12_paysOut_61
    rw [if_neg (by omega), w32_id (x := 8 + 0) (by omega) (by omega), show (8 + 0 : Int) = 8 from rfl, w32_id (x := 0 + 1) (by omega) (by omega), show (0 + 1 : Int) = 1 from rfl]
    simp only [k0, k1, k2, wp, wr, a1', R_setStake hi12 (show (0 : Int) ≤ 8 by omega) (by omega), bindS]
    rfl
  have s1 : ∀ f : Nat, g_X12_paysOut_5 (f + 1) i (w64 (0 + s 8)) 1 (uL M1 23 (138 + 10 * i + 8) 0) = g_X12_paysOut_5 f i (w64 (w64 (0 + s 8) + s 9)) 2 (uL M3 23 (138 + 10 * i + 9) 0) := by
    intro f
    rw [e]
    unfold g_X12_paysOut_5B g_X12_paysOut_61
    rw [if_neg (by omega), w32_id (x := 8 + 1) (by omega) (by omega), show (8 + 1 : Int) = 9 from rfl, w32_id (x := 1 + 1) (by omega) (by omega), show (1 + 1 : Int) = 2 from rfl]
    simp only [j0, j1, j2, wp, wr, a3', R_setStake hi12 (show (0 : Int) ≤ 9 by omega) (by omega), bindS]
    rfl
  have s2 : ∀ (f : Nat) (v : Int) (M : MZ), g_X12_paysOut_5 (f + 1) i v 2 M = some (v, M) := by
    intro f v M
    rw [e]
    unfold g_X12_paysOut_5B
    rw [if_pos (by omega)]
  exact (s0 99999).trans ((s1 99998).trans (s2 99997 _ _))
/-- what a taking leaves: numbers, and the row -/
def tkA (N T : Nat → Int) (s : Nat → Int) (l : Int) (k : Int) : Int := lie (N (22 + 23 * (s 1).toNat)) (N (22 + 23 * (s 1).toNat + 1)) l (s 2) (s 3) k 0
def tkN (N T : Nat → Int) (L : List (Nat → Int)) (i : Nat) (l : Int) : Nat → Int :=
  if l < L.getD i d0 5 then gO2 N T (L.getD i d0 1).toNat (L.getD i d0 0).toNat (tkA N T (L.getD i d0) l 0) (tkA N T (L.getD i d0) l 1)
  else gO2 N T (L.getD i d0 1).toNat (L.getD i d0 0).toNat (tkA N T (L.getD i d0) l 0 + owd (L.getD i d0) 0) (tkA N T (L.getD i d0) l 1 + owd (L.getD i d0) 1)
def tkL (L : List (Nat → Int)) (i : Nat) (l : Int) : List (Nat → Int) := if l < L.getD i d0 5 then L.set i (ud (stl (L.getD i d0)) 5 (L.getD i d0 5 - l)) else L.eraseIdx i
theorem R_takesOut (R : RepR M N T L th pe po) (K : KON M) (W : WF N T L th pe po) {i : Nat} (hi : i < L.length) {l : Int} (h1 : 1 ≤ l) (h2 : l ≤ L.getD i d0 5) : ∃ M', g_X12_takesOut i l M = some ((), M') ∧ RepR M' (tkN N T L i l) T (tkL L i l) th pe po ∧ Fr23 M M' := by
  have h12 := R.2.2.2.2.2
  have hi12 : i < 12 := by omega
  have hz := W.1.r
  have hs := W.2.2 _ (getD_mem hi)
  unfold tkN tkL tkA
  generalize es : L.getD i d0 = s at *
  obtain ⟨p, ep⟩ := zR_nat hs.2.1.1
  obtain ⟨per, eper⟩ := zR_nat hs.1.1
  have hp : p < 5 := by have := hs.2.1; omega
  have hq : (p : Int) < po := by have := hs.2.1; omega
  have hper : per < 4 := by have := hs.1; omega
  have ht := W.t2 hp hq
  have hrz := (W.2.1 p hp hq).2
  rw [ep, eper, Int.toNat_natCast, Int.toNat_natCast]
  obtain ⟨M1, a1, R1, F1⟩ := R_settles R hi
  rw [es] at R1
  have hl1 : i < (L.set i (stl s)).length := by rw [List.length_set]; exact hi
  have g1 : (L.set i (stl s)).getD i d0 = stl s := by rw [getD_set hi, if_pos rfl]
  obtain ⟨M2, a2, R2, F2⟩ := R_goesOut R1 (k := 0) hp (by omega) hper ht.1 (lie (N (22 + 23 * p)) (N (22 + 23 * p + 1)) l (s 2) (s 3) 0 0)
  obtain ⟨M3, a3, R3, F3⟩ := R_goesOut R2 (k := 1) hp (by omega) hper ht.2.1 (lie (N (22 + 23 * p)) (N (22 + 23 * p + 1)) l (s 2) (s 3) 1 0)
  have K1 := K.f23 F1
  have K2 := K1.f23 F2
  have hl : 0 ≤ l ∧ l ≤ 12000000 := by have := hs.2.2.2.2.1; omega
  have htk : 0 ≤ s 2 ∧ s 2 < s 3 ∧ s 3 ≤ 40 := by have := hs.2.2.1; omega
  have y1 := R_liesIn R1 K1 hp (l := l) (lo := s 2) (hi := s 3) hrz hl htk (k := 0) (Or.inl rfl) 0
  have er0 : gOut N T p 0 per (lie (N (22 + 23 * p)) (N (22 + 23 * p + 1)) l (s 2) (s 3) 0 0) (22 + 23 * p) = N (22 + 23 * p) := gOut_rz (by omega) hper ht.1 p (w := 0) (by omega) (Or.inl (by omega))
  have er1 : gOut N T p 0 per (lie (N (22 + 23 * p)) (N (22 + 23 * p + 1)) l (s 2) (s 3) 0 0) (22 + 23 * p + 1) = N (22 + 23 * p + 1) := gOut_rz (by omega) hper ht.1 p (w := 1) (by omega) (Or.inl (by omega))
  have y2 := R_liesIn R2 K2 hp (l := l) (lo := s 2) (hi := s 3) (by rw [er0, er1]; exact hrz) hl htk (k := 1) (Or.inr rfl) 0
  rw [er0, er1] at y2
  have a2' : g_X12_goesOut p per 0 (lie (N (22 + 23 * p)) (N (22 + 23 * p + 1)) l (s 2) (s 3) 0 0) M1 = some ((), M2) := a2
  have a3' : g_X12_goesOut p per 1 (lie (N (22 + 23 * p)) (N (22 + 23 * p + 1)) l (s 2) (s 3) 1 0) M2 = some ((), M3) := a3
  have b0 : g_X12_ofStake i 0 M1 = some ((per : Int), M1) := by rw [R_stk R1 hl1 (by omega) (by omega), g1, ← eper]; rfl
  have b2 : g_X12_ofStake i 2 M1 = some (s 2, M1) := by rw [R_stk R1 hl1 (by omega) (by omega), g1]; rfl
  have b3 : g_X12_ofStake i 3 M1 = some (s 3, M1) := by rw [R_stk R1 hl1 (by omega) (by omega), g1]; rfl
  have c0 : g_X12_ofStake i 0 M2 = some ((per : Int), M2) := by rw [R_stk R2 hl1 (by omega) (by omega), g1, ← eper]; rfl
  have c2 : g_X12_ofStake i 2 M2 = some (s 2, M2) := by rw [R_stk R2 hl1 (by omega) (by omega), g1]; rfl
  have c3 : g_X12_ofStake i 3 M2 = some (s 3, M2) := by rw [R_stk R2 hl1 (by omega) (by omega), g1]; rfl
  have d5 : g_X12_ofStake i 5 M3 = some (s 5, M3) := by rw [R_stk R3 hl1 (by omega) (by omega), g1]; rfl
  have wr : w32 (per : Int) = per := w32_id (by omega) (by omega)
  have w2 : w32 (s 2) = s 2 := w32_id (by omega) (by omega)
  have w3 : w32 (s 3) = s 3 := w32_id (by omega) (by omega)
  have R4 := R3.stake2 hi (w := 5) (by omega) (s 5 - l)
  have hl4 : i < (L.set i (ud (stl s) 5 (s 5 - l))).length := by rw [List.length_set]; exact hi
  have g4 : (L.set i (ud (stl s) 5 (s 5 - l))).getD i d0 = ud (stl s) 5 (s 5 - l) := by rw [getD_set hi, if_pos rfl]
  have d5' : g_X12_ofStake i 5 (uL M3 23 (138 + 10 * i + 5) (s 5 - l)) = some (s 5 - l, uL M3 23 (138 + 10 * i + 5) (s 5 - l)) := by rw [R_stk R4 hl4 (by omega) (by omega), g4]; rfl
  have e : ∀ (f : Nat) (k : Int) (M : MZ), g_X12_takesOut_17 (f + 1) i l p k M = g_X12_takesOut_17B (g_X12_takesOut_17 f) i l p k M := fun _ _ _ => rfl
  have s0 : ∀ f : Nat, g_X12_takesOut_17 (f + 1) i l p 0 M1 = g_X12_takesOut_17 f i l p 1 M2 := by
    intro f
    rw [e]
    unfold g_X12_takesOut_17B
    rw [if_neg (by omega), w32_id (x := 0 + 1) (by omega) (by omega), show (0 + 1 : Int) = 1 from rfl]
    simp only [b0, b2, b3, wr, w2, w3, y1, a2', bindS]
  have s1 : ∀ f : Nat, g_X12_takesOut_17 (f + 1) i l p 1 M2 = g_X12_takesOut_17 f i l p 2 M3 := by
    intro f
    rw [e]
    unfold g_X12_takesOut_17B
    rw [if_neg (by omega), w32_id (x := 1 + 1) (by omega) (by omega), show (1 + 1 : Int) = 2 from rfl]
    simp only [c0, c2, c3, wr, w2, w3, y2, a3', bindS]
  have w5 : w64 (s 5 - l) = s 5 - l := w64_id (by have := hs.2.2.2.2.1; omega) (by have := hs.2.2.2.2.1; omega)
  have s2 : ∀ f : Nat, g_X12_takesOut_17 (f + 1) i l p 2 M3 = (if s 5 - l ≤ 0 then ((g_X12_paysOut i (uL M3 23 (138 + 10 * i + 5) (s 5 - l))).bind fun q96 => (g_X12_takesOut_110 100000 (w32 (138 + (w32 (10 * (i : Int))))) q96.2)) else (some ((), uL M3 23 (138 + 10 * i + 5) (s 5 - l)))) := by
    intro f
    rw [e]
    unfold g_X12_takesOut_17B
    rw [if_pos (by omega)]
    simp only [d5, bindS, w5, R_setStake hi12 (show (0 : Int) ≤ 5 by omega) (by omega)]
    rw [show (5 : Int).toNat = 5 from rfl]
    simp only [d5', bindS]
  have hstart : g_X12_takesOut i l M = (if s 5 - l ≤ 0 then ((g_X12_paysOut i (uL M3 23 (138 + 10 * i + 5) (s 5 - l))).bind fun q96 => (g_X12_takesOut_110 100000 (w32 (138 + (w32 (10 * (i : Int))))) q96.2)) else (some ((), uL M3 23 (138 + 10 * i + 5) (s 5 - l)))) := by
    unfold g_X12_takesOut g_X12_takesOut_9
    have k1 : g_X12_ofStake i 1 M = some ((p : Int), M) := by rw [R_stk R hi (by omega) (by omega), es, ← ep]; rfl
    rw [k1]
    simp only [bindS]
    rw [w32_id (x := (p : Int)) (by omega) (by omega), a1]
    simp only [bindS]
    exact (s0 99999).trans ((s1 99998).trans (s2 99997))
  have F4 : Fr23 M (uL M3 23 (138 + 10 * i + 5) (s 5 - l)) := ((F1.trans F2).trans F3).trans Fr23_u
  rw [hstart]
  by_cases hc : l < s 5
  · rw [if_neg (by omega), if_pos hc, if_pos hc]
    exact ⟨_, rfl, R4, F4⟩
  · rw [if_pos (by omega), if_neg hc, if_neg hc]
    obtain ⟨M5, a5, R5, F5⟩ := R_paysOut R4 hl4 hp hper ht g4 (by rw [← ep]; rfl) (by rw [← eper]; rfl)
    rw [List.set_set] at R5
    rw [a5]
    simp only [bindS]
    obtain ⟨M6, a6, R6, F6⟩ := R_shift R5 (i := i) (by rw [List.length_set]; exact hi)
    rw [w32_id (x := 10 * (i : Int)) (by omega) (by omega), w32_id (x := 138 + 10 * (i : Int)) (by omega) (by omega), show 138 + 10 * (i : Int) = ((138 + 10 * i : Nat) : Int) by omega, a6]
    refine ⟨M6, rfl, ?_, (F4.trans F5).trans F6⟩
    have er : (L.set i (ud (ud (ud (stl s) 5 (s 5 - l)) 8 0) 9 0)).eraseIdx i = L.eraseIdx i := by
      apply List.ext_getElem?
      intro x
      rw [List.getElem?_eraseIdx, List.getElem?_eraseIdx]
      split
      · rw [List.getElem?_set, if_neg (by omega)]
      · rw [List.getElem?_set, if_neg (by omega)]
    rw [er] at R6
    have ef := gO2_add (N := N) (T := T) (p := p) (per := per) hper ht.1 ht.2.1 ht.2.2 (lie (N (22 + 23 * p)) (N (22 + 23 * p + 1)) l (s 2) (s 3) 0 0) (lie (N (22 + 23 * p)) (N (22 + 23 * p + 1)) l (s 2) (s 3) 1 0) (owd s 0) (owd s 1)
    rw [← ef]
    exact R6
end TK
