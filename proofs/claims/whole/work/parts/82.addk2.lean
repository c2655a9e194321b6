/-! add, as the developers have it: at a stake that is there, at a new one -/
theorem getD_app {L : List (Nat → Int)} {x : Nat → Int} {i : Nat} : (L ++ [x]).getD i d0 = if i < L.length then L.getD i d0 else if i = L.length then x else d0 := by
  rw [List.getD_eq_getElem?_getD, List.getD_eq_getElem?_getD]
  by_cases c : i < L.length
  · rw [if_pos c, List.getElem?_append_left c]
  · rw [if_neg c, List.getElem?_append_right (by omega)]
    by_cases e : i = L.length
    · subst e; rw [if_pos rfl, Nat.sub_self]; rfl
    · rw [if_neg e]
      rw [List.getElem?_eq_none (by simp; omega)]
      rfl
theorem len_app {L : List (Nat → Int)} {x : Nat → Int} : (L ++ [x]).length = L.length + 1 := by simp
section AE
variable {M : MZ} {b : Nat} {kk : Bool} {N T : Nat → Int} {L : List (Nat → Int)} {th pe po : Int}
theorem Rep.same2 {M' : MZ} {j : Nat} (R : Rep kk M b N T L th pe po) (hj : L.length ≤ j ∧ j < 12) (hs : ∀ x, b ≤ x → x < b + 65 → ¬ (zR M (b + 3) j ≤ x ∧ x ≤ zR M (b + 3) j + 2) → sameH M M' x) : Rep kk M' b N T L th pe po := by
  obtain ⟨⟨a0, a1, a2, a3, a4, a5⟩, hp, ht, hc, hL, hH, hn⟩ := R
  have r := hH.rng hj.2
  have e0 := fun k => (hs b (by omega) (by omega) (by omega) k).1
  refine ⟨⟨by rw [e0]; exact a0, by rw [e0]; exact a1, by rw [e0]; exact a2, by rw [e0]; exact a3, by rw [e0]; exact a4, by rw [e0]; exact a5⟩, fun k hk => ?_, fun p p5 po k hk => ?_, fun p p5 po w hw hk => ?_, fun i hi w hw => ?_, HP.same (fun i hi => (hs (b + 3) (by omega) (by omega) (by omega) i).2.2) hH, hn⟩
  · rw [(hs (b + 1) (by omega) (by omega) (by omega) k).1]; exact hp k hk
  · rw [(hs (b + 2 + 2 + 5 * p) (by omega) (by omega) (by omega) k).1]; exact ht p p5 po k hk
  · have := pad_lt w
    rw [(hs (b + 2 + 2 + 5 * p + pad w) (by omega) (by omega) (by omega) (ppl w)).1]; exact hc p p5 po w hw hk
  · rw [(hs (b + 3) (by omega) (by omega) (by omega) i).2.2]
    obtain ⟨r1, r2⟩ := hH.rng (i := i) (by omega)
    have ap := hH.apart (i := i) (j := j) (by omega) hj.2 (by omega)
    rw [zS_same (hs _ (by omega) (by omega) (by omega)) (hs _ (by omega) (by omega) (by omega)) (hs _ (by omega) (by omega) (by omega))]
    exact hL i hi w hw
theorem Rep.push (R : Rep kk M b N T L th pe po) (hj : L.length < 12) {s : Nat → Int} (hs : ∀ w, w < 10 → zS M (zR M (b + 3) L.length) w = s w) {v : Int} (hv : v = (L.length : Int) + 1) : Rep kk (uI M b 3 v) b N T (L ++ [s]) th pe po := by
  subst hv
  obtain ⟨⟨a0, a1, a2, a3, a4, a5⟩, hp, ht, hc, hL, hH, hn⟩ := R
  refine ⟨⟨?_, ?_, ?_, ?_, ?_, ?_⟩, fun k hk => ?_, fun p p5 pq k hk => ?_, fun p p5 pq w hw hk => ?_, fun i hi w hw => ?_, HP.same (fun i hi => rfl) hH, by rw [len_app]; omega⟩
  · rw [zI_uI, if_neg (by omega)]; exact a0
  · rw [zI_uI, if_neg (by omega)]; exact a1
  · rw [zI_uI, if_neg (by omega)]; exact a2
  · rw [zI_uI, if_pos ⟨rfl, rfl⟩, len_app]; omega
  · rw [zI_uI, if_neg (by omega)]; exact a4
  · rw [zI_uI, if_neg (by omega)]; exact a5
  · rw [zI_uI, if_neg (by omega)]; exact hp k hk
  · rw [zI_uI, if_neg (by omega)]; exact ht p p5 pq k hk
  · rw [zI_uI, if_neg (by omega)]; exact hc p p5 pq w hw hk
  · rw [len_app] at hi
    have r := hH.rng (i := i) (by omega)
    rw [zR_uI, zS_same (sameH_uI (by omega)) (sameH_uI (by omega)) (sameH_uI (by omega)), getD_app]
    by_cases c : i < L.length
    · rw [if_pos c]; exact hL i c w hw
    · rw [if_neg c, if_pos (by omega), show i = L.length by omega]
      exact hs w hw
theorem K_open_raw {h : Nat} (kh : kd h = (6, 8)) (per p lo hi au : Int) (M : MZ) : ∃ M', g_X7_open h per p lo hi au M = some ((), M') ∧ (∀ x, (x < h ∨ h + 2 < x) → sameH M M' x) ∧ (∀ a k, zR M' a k = zR M a k) ∧ (∀ w, w < 10 → zS M' h w = nst per p lo hi au 0 w) := by
  have e : ∀ (f : Nat) (k : Int) (M : MZ), g_X7_open_35 (f + 1) h k M = g_X7_open_35B (g_X7_open_35 f) h k M := fun _ _ _ => rfl
  have s0 : ∀ (f : Nat) (M : MZ), g_X7_open_35 (f + 1) h 0 M = g_X7_open_35 f h 1 (uS (uS M h 6 0) h 8 0) := by
    intro f M
    rw [e]
    unfold g_X7_open_35B
    rw [if_neg (by omega), if_pos kh, if_pos (by omega), if_pos (by omega), w32_id (by omega) (by omega)]
    rfl
  have s1 : ∀ (f : Nat) (M : MZ), g_X7_open_35 (f + 1) h 1 M = g_X7_open_35 f h 2 (uS (uS M h 7 0) h 9 0) := by
    intro f M
    rw [e]
    unfold g_X7_open_35B
    rw [if_neg (by omega), if_pos kh, if_pos (by omega), if_pos (by omega), w32_id (by omega) (by omega)]
    rfl
  have s2 : ∀ (f : Nat) (M : MZ), g_X7_open_35 (f + 1) h 2 M = some ((), M) := by
    intro f M
    rw [e]
    unfold g_X7_open_35B
    rw [if_pos (by omega)]
  refine ⟨uS (uS (uS (uS (uS (uS (uS (uS (uS (uS M h 0 per) h 1 p) h 2 lo) h 3 hi) h 4 au) h 5 0) h 6 0) h 8 0) h 7 0) h 9 0, ?_, ?_, ?_, ?_⟩
  · unfold g_X7_open g_X7_open_15 g_X7_open_32
    rw [if_pos kh, if_pos kh]
    exact (s0 99999 _).trans ((s1 99998 _).trans (s2 99997 _))
  · intro x hx
    exact (((((((((sameH_uS hx).trans (sameH_uS hx)).trans (sameH_uS hx)).trans (sameH_uS hx)).trans (sameH_uS hx)).trans (sameH_uS hx)).trans (sameH_uS hx)).trans (sameH_uS hx)).trans (sameH_uS hx)).trans (sameH_uS hx)
  · intro a k
    rw [zR_uS, zR_uS, zR_uS, zR_uS, zR_uS, zR_uS, zR_uS, zR_uS, zR_uS, zR_uS]
  · intro w hw
    rw [zS_uS (by omega) hw, zS_uS (by omega) hw, zS_uS (by omega) hw, zS_uS (by omega) hw, zS_uS (by omega) hw, zS_uS (by omega) hw, zS_uS (by omega) hw, zS_uS (by omega) hw, zS_uS (by omega) hw, zS_uS (by omega) hw]
    have : w = 0 ∨ w = 1 ∨ w = 2 ∨ w = 3 ∨ w = 4 ∨ w = 5 ∨ w = 6 ∨ w = 7 ∨ w = 8 ∨ w = 9 := by omega
    rcases this with rfl | rfl | rfl | rfl | rfl | rfl | rfl | rfl | rfl | rfl <;> rfl
/-- what can be added -/
def adG (N T : Nat → Int) (p per : Nat) (l lo hi cur : Int) : Prop := cur + l ≤ 999999 ∧ lie (N (22 + 23 * p)) (N (22 + 23 * p + 1)) l lo hi 0 1 ≤ N (uc T p 0 per) ∧ lie (N (22 + 23 * p)) (N (22 + 23 * p + 1)) l lo hi 1 1 ≤ N (uc T p 1 per)
def adN (N T : Nat → Int) (p per : Nat) (l lo hi : Int) : Nat → Int := gO2 N T p per (-lie (N (22 + 23 * p)) (N (22 + 23 * p + 1)) l lo hi 0 1) (-lie (N (22 + 23 * p)) (N (22 + 23 * p + 1)) l lo hi 1 1)
theorem zS_5 (M : MZ) (h : Nat) : zS M h 5 = zI M h 5 := rfl
theorem K_add_found (hb : bOK b) (R : Rep kk M b N T L th pe po) (W : WF N T L th pe po) (hU : ∀ j, j < 20 → 0 ≤ N (2 + j) ∧ N (2 + j) ≤ 39999996) {i p per : Nat} (hi : i < L.length) (hp : p < 5) (hq : (p : Int) < po) (hper : per < 4) {l : Int} (hl : 1 ≤ l ∧ l ≤ 99999) :
    (¬ adG N T p per l (L.getD i d0 2) (L.getD i d0 3) (L.getD i d0 5) → g_X2_addStake_131 b per l (b + 2 + 2 + 5 * p) i i (zR M (b + 3) i) M = some (-1, M)) ∧
    (adG N T p per l (L.getD i d0 2) (L.getD i d0 3) (L.getD i d0 5) → ∃ M', g_X2_addStake_131 b per l (b + 2 + 2 + 5 * p) i i (zR M (b + 3) i) M = some ((i : Int), M') ∧ Rep kk M' b (adN N T p per l (L.getD i d0 2) (L.getD i d0 3)) T (L.set i (ud (stl (L.getD i d0)) 5 (L.getD i d0 5 + l))) th pe po ∧ FrB b M M') := by
  have h12 := R.2.2.2.2.2.2
  have hs := W.2.2 _ (getD_mem hi)
  have hkd := R.2.2.2.2.2.1.kd hb (show i < 12 by omega)
  have hrg := R.2.2.2.2.2.1.rng (show i < 12 by omega)
  have ht := W.t2 hp hq
  have hrz : Rzz (N (22 + 23 * p)) (N (22 + 23 * p + 1)) := (W.2.1 p hp hq).2
  obtain ⟨f1, f2⟩ := K_add_end hb R hp hq hper ht hU hrz hl (lo := L.getD i d0 2) (hi := L.getD i d0 3) (cur := L.getD i d0 5) (by have := hs.2.2.1; omega) hkd (K_sI R hi (by omega)) (K_sI R hi (by omega)) (K_sI R hi (by omega)) (by have := hs.2.2.2.2.1; omega) i i
  refine ⟨f1, fun hg => ?_⟩
  obtain ⟨M1, a1, R1, F1, Z1⟩ := K_settle hb R hi
  unfold adN
  generalize es : L.getD i d0 = s at *
  have hl1 : i < (L.set i (stl s)).length := by rw [List.length_set]; exact hi
  have g1 : (L.set i (stl s)).getD i d0 = stl s := by rw [getD_set hi, if_pos rfl]
  have x5 : zI M1 (zR M (b + 3) i) 5 = s 5 := by rw [← Z1, K_sI R1 hl1 (by omega), g1]; rfl
  have R2 := R1.stake2 hi (w := 5) (by omega) (s 5 + l) (Z1 _ _)
  obtain ⟨M3, a3, R3, F3, Z3⟩ := K_payOut hb R2 (k := 0) hp hq (by omega) hper ht.1 (x := w32 (w64 (-lie (N (22 + 23 * p)) (N (22 + 23 * p + 1)) l (s 2) (s 3) 0 1))) (v := -lie (N (22 + 23 * p)) (N (22 + 23 * p + 1)) l (s 2) (s 3) 0 1) (by rw [w32_w32, w32_w64])
  obtain ⟨M4, a4, R4, F4, Z4⟩ := K_payOut hb R3 (k := 1) hp hq (by omega) hper ht.2.1 (x := w32 (w64 (-lie (N (22 + 23 * p)) (N (22 + 23 * p + 1)) l (s 2) (s 3) 1 1))) (v := -lie (N (22 + 23 * p)) (N (22 + 23 * p + 1)) l (s 2) (s 3) 1 1) (by rw [w32_w32, w32_w64])
  refine ⟨_, f2 hg M1 M3 M4 a1 x5 a3 a4, ?_, ?_⟩
  · rw [if_neg (by omega)]
    exact R4.same (fun h _ _ => sm3 M4 b 3 h)
  · rw [if_neg (by omega)]
    exact (((F1.trans (FrB_uS (by omega))).trans F3).trans F4).trans (fun h _ => sm3 M4 b 3 h)
theorem K_add_new (hb : bOK b) (R : Rep kk M b N T L th pe po) (W : WF N T L th pe po) (hU : ∀ j, j < 20 → 0 ≤ N (2 + j) ∧ N (2 + j) ≤ 39999996) (hn : L.length < 12) {p per : Nat} (hp : p < 5) (hq : (p : Int) < po) (hper : per < 4) {l lo hi au : Int} (hl : 1 ≤ l ∧ l ≤ 99999) (htk : 0 ≤ lo ∧ lo < hi ∧ hi ≤ 40) :
    (¬ adG N T p per l lo hi 0 → ∃ M', g_X2_addStake_113 b per p lo hi au l (b + 2 + 2 + 5 * p) (-1) L.length (zR M (b + 3) L.length) M = some (-1, M') ∧ Rep kk M' b N T L th pe po ∧ FrB b M M') ∧
    (adG N T p per l lo hi 0 → ∃ M', g_X2_addStake_113 b per p lo hi au l (b + 2 + 2 + 5 * p) (-1) L.length (zR M (b + 3) L.length) M = some ((L.length : Int), M') ∧ Rep kk M' b (adN N T p per l lo hi) T (L ++ [nst per p lo hi au l]) th pe po ∧ FrB b M M') := by
  have hkd := R.2.2.2.2.2.1.kd hb hn
  have hrg := R.2.2.2.2.2.1.rng hn
  have ht := W.t2 hp hq
  have hrz : Rzz (N (22 + 23 * p)) (N (22 + 23 * p + 1)) := (W.2.1 p hp hq).2
  obtain ⟨M0, o1, o2, o3, o4⟩ := K_open_raw hkd per p lo hi au M
  have R0 : Rep kk M0 b N T L th pe po := R.same2 ⟨Nat.le_refl _, hn⟩ (fun x _ _ hx => o2 x (by omega))
  have F0 : FrB b M M0 := fun x hx => o2 x (by omega)
  generalize eh : zR M (b + 3) L.length = h at *
  have z2 : zI M0 h 2 = lo := o4 2 (by omega)
  have z3 : zI M0 h 3 = hi := o4 3 (by omega)
  have z5 : zI M0 h 5 = 0 := o4 5 (by omega)
  obtain ⟨f1, f2⟩ := K_add_end hb R0 hp hq hper ht hU hrz hl (lo := lo) (hi := hi) (cur := 0) htk hkd z2 z3 z5 (by omega) (-1) L.length
  have hst : g_X2_addStake_113 b per p lo hi au l (b + 2 + 2 + 5 * p) (-1) L.length h M = g_X2_addStake_131 b per l (b + 2 + 2 + 5 * p) (-1) L.length h M0 := by
    unfold g_X2_addStake_113
    rw [if_pos rfl, if_pos hkd, o1]
    simp only [bindS]
  rw [hst]
  refine ⟨fun hg => ⟨M0, f1 hg, R0, F0⟩, fun hg => ?_⟩
  have a1 := K_settle_raw hkd M0
  have oz : ∀ k, k < 2 → ozw M0 h k = 0 := by
    intro k hk
    have q1 : zL M0 (h + 2) k = 0 := by
      have := o4 (8 + k) (by omega)
      unfold zS at this
      rw [if_neg (by omega), if_neg (by omega), show 8 + k - 8 = k by omega] at this
      rw [this]
      unfold nst
      rw [if_neg (by omega), if_neg (by omega), if_neg (by omega), if_neg (by omega), if_neg (by omega), if_neg (by omega)]
    have q2 : zL M0 (h + 1) k = 0 := by
      have := o4 (6 + k) (by omega)
      unfold zS at this
      rw [if_neg (by omega), if_pos (by omega), show 6 + k - 6 = k by omega] at this
      rw [this]
      unfold nst
      rw [if_neg (by omega), if_neg (by omega), if_neg (by omega), if_neg (by omega), if_neg (by omega), if_neg (by omega)]
    unfold ozw
    rw [q1, q2, Int.mul_zero]
    rfl
  rw [oz 0 (by omega), oz 1 (by omega)] at a1
  generalize eM1 : uS (uS (uS (uS M0 h 8 0) h 6 0) h 9 0) h 7 0 = M1 at a1
  have m1z : ∀ w, w < 10 → zS M1 h w = nst per p lo hi au 0 w := by
    intro w hw
    rw [← eM1, zS_uS (by omega) hw, zS_uS (by omega) hw, zS_uS (by omega) hw, zS_uS (by omega) hw, o4 w hw]
    unfold nst
    repeat' split
    all_goals omega
  have m1s : ∀ x, (x < h ∨ h + 2 < x) → sameH M0 M1 x := by
    intro x hx
    rw [← eM1]
    exact (((sameH_uS hx).trans (sameH_uS hx)).trans (sameH_uS hx)).trans (sameH_uS hx)
  have m1r : ∀ a k, zR M1 a k = zR M0 a k := by
    intro a k
    rw [← eM1, zR_uS, zR_uS, zR_uS, zR_uS]
  have x5 : zI M1 h 5 = 0 := m1z 5 (by omega)
  have R2 : Rep kk (uI M1 h 5 (0 + l)) b N T L th pe po := R.same2 ⟨Nat.le_refl _, hn⟩ (fun x _ _ hx => ((o2 x (by omega)).trans (m1s x (by omega))).trans (sameH_uI (by omega)))
  obtain ⟨M3, a3, R3, F3, Z3⟩ := K_payOut hb R2 (k := 0) hp hq (by omega) hper ht.1 (x := w32 (w64 (-lie (N (22 + 23 * p)) (N (22 + 23 * p + 1)) l lo hi 0 1))) (v := -lie (N (22 + 23 * p)) (N (22 + 23 * p + 1)) l lo hi 0 1) (by rw [w32_w32, w32_w64])
  have S3 := K_payOut2 hb R2 hp hq (by omega) hper ht.1 _ a3
  obtain ⟨M4, a4, R4, F4, Z4⟩ := K_payOut hb R3 (k := 1) hp hq (by omega) hper ht.2.1 (x := w32 (w64 (-lie (N (22 + 23 * p)) (N (22 + 23 * p + 1)) l lo hi 1 1))) (v := -lie (N (22 + 23 * p)) (N (22 + 23 * p + 1)) l lo hi 1 1) (by rw [w32_w32, w32_w64])
  have S4 := K_payOut2 hb R3 hp hq (by omega) hper ht.2.1 _ a4
  have c3 : zI M4 b 3 = L.length := R4.1.2.2.2.1
  have hh4 : zR M4 (b + 3) L.length = h := by rw [Z4, Z3, zR_uI, m1r, o3, eh]
  refine ⟨_, f2 hg M1 M3 M4 a1 x5 a3 a4, ?_, ?_⟩
  · rw [if_pos rfl, c3, w32_id (by omega) (by omega)]
    refine R4.push hn (fun w hw => ?_) rfl
    rw [hh4, zS_same (S4 _ (by omega) (by omega)) (S4 _ (by omega) (by omega)) (S4 _ (by omega) (by omega)), zS_same (S3 _ (by omega) (by omega)) (S3 _ (by omega) (by omega)) (S3 _ (by omega) (by omega))]
    have e5 : uI M1 h 5 (0 + l) = uS M1 h 5 (0 + l) := rfl
    rw [e5, zS_uS (by omega) hw, m1z w hw]
    unfold nst
    repeat' split
    all_goals omega
  · have F1 : FrB b M0 M1 := fun x hx => m1s x (by omega)
    exact ((((F0.trans F1).trans (FrB_uI (by omega))).trans F3).trans F4).trans (FrB_uI (by omega))
end AE
