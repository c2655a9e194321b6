/-! money over a whole swap -/
section SM
variable {D : Nat → Nat → Int} {N T : Nat → Int} {L : List (Nat → Int)} {th pe po : Int}
theorem xN_keep (W : WF N T L th pe po) (h12 : L.length ≤ 12) {p : Nat} {side e o left : Int} (hg : Pgo N T L p po side e o left) : (∀ q w, w < 23 → 6 ≤ w → xN N T L p side e o left (22 + 23 * q + w) = N (22 + 23 * q + w)) ∧ xN N T L p side e o left 0 = N 0 := by
  have hpe := W.1.r
  have ht := W.t2 hg.1 hg.2.1
  obtain ⟨hk, hk2⟩ := xk_r hg.2.2.1
  have hLs : Lok pe po (xL1 N T L p side e o left) := shR_ok W.2.2 p (xz N p) (xk side) _
  have a1 : ∀ q w, w < 23 → 6 ≤ w → x2 N T L p side e o left (22 + 23 * q + w) = N (22 + 23 * q + w) := fun q w h1 h2 => x2_at (by unfold hc; omega) (by unfold hc; omega) (by omega) (by unfold hoC; omega) (by omega) (by omega)
  have a2 : x2 N T L p side e o left 0 = N 0 := x2_at (by unfold hc; omega) (by unfold hc; omega) (by omega) (by unfold hoC; omega) (by omega) (by omega)
  unfold xN
  split
  · obtain ⟨d1, d2⟩ := drN_rz ht side (xA N L p side e) (xRt N T L p side e o left) (xZ N T L p side e o left) hLs (by omega) (x2 N T L p side e o left)
    exact ⟨fun q w h1 h2 => by rw [d1 q w h1 (by omega)]; exact a1 q w h1 h2, by rw [d2 0 (by omega)]; exact a2⟩
  · exact ⟨a1, a2⟩
theorem swap_loop_m {p per : Nat} {side e o : Int} (hb : Pbg p po side e o) (hper : per < 4) (hD : ∀ p k, D p k ≤ 39999996) (hd : D p 0 = 0 ∧ D p 1 = 0) (has : Int) : ∀ (n : Nat) (ae : Bool) (s : SW), n ≤ 50 → WF s.1 T s.2.1 th pe po → s.2.1.length ≤ 12 → Pae p side e ae s → (0 ≤ s.2.2.2.1 ∧ s.2.2.2.1 ≤ 20000000000 * (50 - (n : Int))) → (0 ≤ s.2.2.2.2.1 ∧ s.2.2.2.2.1 ≤ 20000000000 * (50 - (n : Int))) →
    (s.2.2.2.1 ≤ (swp T p side e o n ae s).2.2.2.1 ∧ (swp T p side e o n ae s).2.2.2.1 ≤ 1000000000000) ∧ (0 ≤ (swp T p side e o n ae s).2.2.2.2.1 ∧ (swp T p side e o n ae s).2.2.2.2.1 ≤ 1000000000000) ∧ (o = 0 → (swp T p side e o n ae s).2.2.2.1 + (swp T p side e o n ae s).2.2.1 = s.2.2.2.1 + s.2.2.1) ∧ (o = 1 → (swp T p side e o n ae s).2.2.2.2.1 + (swp T p side e o n ae s).2.2.1 = s.2.2.2.2.1 + s.2.2.1) ∧ ((∀ q w, w < 23 → 6 ≤ w → (swp T p side e o n ae s).1 (22 + 23 * q + w) = s.1 (22 + 23 * q + w)) ∧ (swp T p side e o n ae s).1 0 = s.1 0) ∧
    (has - s.2.2.2.1 ≤ trN s.1 T p (xk side) per s.2.2.2.1 s.2.2.2.2.1 (uc T p (xk side) per) → MnyD D (trN s.1 T p (xk side) per s.2.2.2.1 s.2.2.2.2.1) T s.2.1 po → (swp T p side e o n ae s).2.2.2.1 ≤ has → MnyD D (trN (swp T p side e o n ae s).1 T p (xk side) per (swp T p side e o n ae s).2.2.2.1 (swp T p side e o n ae s).2.2.2.2.1) T (swp T p side e o n ae s).2.1 po) := by
  intro n
  induction n with
  | zero =>
    intro ae s hn W h12 ha hc hg
    have e1 : swp T p side e o 0 ae s = s := rfl
    rw [e1]
    exact ⟨⟨Int.le_refl _, by omega⟩, ⟨hg.1, by omega⟩, fun _ => rfl, fun _ => rfl, ⟨fun _ _ _ _ => rfl, rfl⟩, fun _ m _ => m⟩
  | succ n ih =>
    intro ae s hn W h12 ha hc hg
    have e2 : swp T p side e o (n + 1) ae s = if s.2.2.1 ≤ 0 ∨ ae = true then s else swp T p side e o n (xE s.1 T s.2.1 p side e o s.2.2.1) (swS T p side e o s) := rfl
    rw [e2]
    by_cases c : s.2.2.1 ≤ 0 ∨ ae = true
    · rw [if_pos c]
      exact ⟨⟨Int.le_refl _, by omega⟩, ⟨hg.1, by omega⟩, fun _ => rfl, fun _ => rfl, ⟨fun _ _ _ _ => rfl, rfl⟩, fun _ m _ => m⟩
    · rw [if_neg c]
      have hgo := Pgo_of (T := T) hb ha c
      obtain ⟨w1, w2, w3, w4⟩ := swS_next hb ha c W h12
      obtain ⟨hP, hA, hA0, hA1, hrz⟩ := hgo.pst W h12
      have k1 : 0 ≤ xCo s.1 T s.2.1 p side e o s.2.2.1 ∧ xCo s.1 T s.2.1 p side e o s.2.2.1 ≤ 10000000000 := sCo_nn hP
      have k2 : 0 ≤ xFe s.1 T s.2.1 p side e o s.2.2.1 ∧ xFe s.1 T s.2.1 p side e o s.2.2.1 ≤ 10000000000 := sFe_nn hP
      have k3 : 0 ≤ xGo s.1 T s.2.1 p side e o s.2.2.1 ∧ xGo s.1 T s.2.1 p side e o s.2.2.1 ≤ 10000000000 := sGo_nn hP
      have kl0 : o = 0 → xLe s.1 T s.2.1 p side e o s.2.2.1 = s.2.2.1 - (xCo s.1 T s.2.1 p side e o s.2.2.1 + xFe s.1 T s.2.1 p side e o s.2.2.1) := fun q => if_pos q
      have kl1 : o = 1 → xLe s.1 T s.2.1 p side e o s.2.2.1 = s.2.2.1 - xGo s.1 T s.2.1 p side e o s.2.2.1 := fun q => if_neg (by omega)
      have f1 : (swS T p side e o s).2.2.2.1 = w64 (s.2.2.2.1 + w64 (xCo s.1 T s.2.1 p side e o s.2.2.1 + xFe s.1 T s.2.1 p side e o s.2.2.1)) := rfl
      have f2 : (swS T p side e o s).2.2.2.2.1 = w64 (s.2.2.2.2.1 + xGo s.1 T s.2.1 p side e o s.2.2.1) := rfl
      have f3 : (swS T p side e o s).2.2.1 = xLe s.1 T s.2.1 p side e o s.2.2.1 := rfl
      have f4 : (swS T p side e o s).1 = xN s.1 T s.2.1 p side e o s.2.2.1 := rfl
      have f5 : (swS T p side e o s).2.1 = xL s.1 T s.2.1 p side e o s.2.2.1 := rfl
      have v1 : w64 (s.2.2.2.1 + w64 (xCo s.1 T s.2.1 p side e o s.2.2.1 + xFe s.1 T s.2.1 p side e o s.2.2.1)) = s.2.2.2.1 + (xCo s.1 T s.2.1 p side e o s.2.2.1 + xFe s.1 T s.2.1 p side e o s.2.2.1) := by
        rw [w64_id (x := xCo s.1 T s.2.1 p side e o s.2.2.1 + xFe s.1 T s.2.1 p side e o s.2.2.1) (by omega) (by omega), w64_id (by omega) (by omega)]
      have v2 : w64 (s.2.2.2.2.1 + xGo s.1 T s.2.1 p side e o s.2.2.1) = s.2.2.2.2.1 + xGo s.1 T s.2.1 p side e o s.2.2.1 := w64_id (by omega) (by omega)
      obtain ⟨i1, i2, i3, i4, i5, i6⟩ := ih (xE s.1 T s.2.1 p side e o s.2.2.1) (swS T p side e o s) (by omega) w1 w2 w3 (by rw [f1, v1]; omega) (by rw [f2, v2]; omega)
      have kp := xN_keep W h12 hgo
      rw [f1, v1] at i1
      refine ⟨⟨by omega, i1.2⟩, i2, fun q => ?_, fun q => ?_, ⟨fun q w h1 h2 => ?_, ?_⟩, fun hU hM hF => ?_⟩
      · rw [i3 q, f1, v1, f3, kl0 q]
        omega
      · rw [i4 q, f2, v2, f3, kl1 q]
        omega
      · rw [i5.1 q w h1 h2, f4]
        exact kp.1 q w h1 h2
      · rw [i5.2, f4]
        exact kp.2
      · have hs := step_money (D := D) W h12 hgo hper (c := s.2.2.2.1) (g := s.2.2.2.2.1) (by omega) (by omega) hM hD hd (by omega)
        refine i6 ?_ ?_ hF
        · rw [f1, f2, f4]
          have := hs.2
          rw [v1] at this ⊢
          omega
        · rw [f1, f2, f4, f5]
          exact hs.1
theorem swp_WF {p : Nat} {side e o : Int} (hb : Pbg p po side e o) : ∀ (n : Nat) (ae : Bool) (s : SW), WF s.1 T s.2.1 th pe po → s.2.1.length ≤ 12 → Pae p side e ae s → WF (swp T p side e o n ae s).1 T (swp T p side e o n ae s).2.1 th pe po ∧ (swp T p side e o n ae s).2.1.length ≤ 12 ∧ (0 ≤ (swp T p side e o n ae s).2.2.1 ∧ (swp T p side e o n ae s).2.2.1 ≤ 10000000000) := by
  intro n
  induction n with
  | zero => exact fun ae s W h12 ha => ⟨W, h12, ha.2⟩
  | succ n ih =>
    intro ae s W h12 ha
    have e2 : swp T p side e o (n + 1) ae s = if s.2.2.1 ≤ 0 ∨ ae = true then s else swp T p side e o n (xE s.1 T s.2.1 p side e o s.2.2.1) (swS T p side e o s) := rfl
    rw [e2]
    by_cases c : s.2.2.1 ≤ 0 ∨ ae = true
    · rw [if_pos c]
      exact ⟨W, h12, ha.2⟩
    · rw [if_neg c]
      obtain ⟨w1, w2, w3, w4⟩ := swS_next hb ha c W h12
      exact ih _ _ w1 w2 w3
theorem swap_WF0 (W : WF N T L th pe po) (h12 : L.length ≤ 12) {p : Nat} {side e o amount : Int} (hb : Pbg p po side e o) (ha : 0 < amount ∧ amount ≤ 10000000000) : WF (swap N T L p side amount e o).1 T (swap N T L p side amount e o).2.1 th pe po ∧ (swap N T L p side amount e o).2.1.length ≤ 12 ∧ (0 ≤ (swap N T L p side amount e o).2.2.1 ∧ (swap N T L p side amount e o).2.2.1 ≤ 10000000000) := by
  have hs := hb.2.2.1
  exact swp_WF hb 50 _ (N, L, amount, 0, 0, 0, 0) W h12 ⟨fun q => ae0_ge hs q, by show 0 ≤ amount ∧ amount ≤ 10000000000; omega⟩
theorem swap_WF (W : WF N T L th pe po) (h12 : L.length ≤ 12) {p : Nat} (m : Mrk N p) {side e o amount : Int} (hb : Pbg p po side e o) (ha : 0 < amount ∧ amount ≤ 10000000000) : WF (swap (mkN N p) T L p side amount e o).1 T (swap (mkN N p) T L p side amount e o).2.1 th pe po ∧ 0 ≤ (swap (mkN N p) T L p side amount e o).2.2.1 :=
  ⟨(swap_WF0 (W.mk m) h12 hb ha).1, (swap_WF0 (W.mk m) h12 hb ha).2.2.1⟩
theorem Mny_cg {N' : Nat → Int} (h : MnyD D N T L po) (h1 : ∀ j, j < 20 → N' (2 + j) = N (2 + j)) (h2 : ∀ q w, w < 6 → N' (22 + 23 * q + w) = N (22 + 23 * q + w)) : MnyD D N' T L po := by
  refine ⟨fun j hj => by rw [h1 j hj]; exact h.1 j hj, fun p k hp hq hk => ?_, fun t ht => ?_, h.2.2.2⟩
  · have := h.2.1 p k hp hq hk
    have e0 := h2 p 0 (by omega)
    rw [Nat.add_zero] at e0
    unfold SolvD at *
    rw [h2 p (4 + k) (by omega), h2 p (2 + k) (by omega), e0, h2 p 1 (by omega)]
    exact this
  · rw [tot_cg (B := N) h1 (fun q => ⟨h2 q 2 (by omega), h2 q 3 (by omega)⟩) ht]
    exact h.2.2.1 t ht
theorem trN_0 (h : MnyD D N T L po) {p k per : Nat} (ht : T2 T p) (hk : k < 2) (hper : per < 4) : trN N T p k per 0 0 = N := by
  have r1 := uc_r ht hk hper
  have r2 := uc_r ht (show 1 - k < 2 by omega) hper
  funext j
  rw [trN_at ht hk]
  split
  · rename_i c
    have := h.hU (j - 2) (by omega)
    rw [show 2 + (j - 2) = j by omega] at this
    rw [Int.add_zero]
    exact w64_id (by omega) (by omega)
  · split
    · have := h.hU (j - 2) (by omega)
      rw [show 2 + (j - 2) = j by omega] at this
      have e : w64 (-0) = 0 := rfl
      rw [e, Int.add_zero]
      exact w64_id (by omega) (by omega)
    · rfl
/-- a swap with its purses: all that the invariant wants behind it -/
theorem swap_pure (W : WF N T L th pe po) (h12 : L.length ≤ 12) (hk : ∀ p : Nat, p < 5 → (p : Int) < po → Mrk N p) (hM : MnyD D N T L po) (hD : ∀ p k, D p k ≤ 39999996) {p per : Nat} (hd : D p 0 = 0 ∧ D p 1 = 0) {side e o amount : Int} (hb : Pbg p po side e o) (ha : 0 < amount ∧ amount ≤ 10000000000) (hper : per < 4) {s : SW} (es : swap (mkN N p) T L p side amount e o = s) :
    (0 ≤ s.2.2.2.1 ∧ s.2.2.2.1 ≤ 1000000000000) ∧ (0 ≤ s.2.2.2.2.1 ∧ s.2.2.2.2.1 ≤ 1000000000000) ∧ (o = 0 → s.2.2.2.1 + s.2.2.1 = amount) ∧ (o = 1 → s.2.2.2.2.1 + s.2.2.1 = amount) ∧ (s.2.2.2.1 ≤ N (uc T p (xk side) per) → WF s.1 T s.2.1 th pe po → MnyD D (trN s.1 T p (xk side) per s.2.2.2.1 s.2.2.2.2.1) T s.2.1 po ∧ WF (trN s.1 T p (xk side) per s.2.2.2.1 s.2.2.2.2.1) T s.2.1 th pe po ∧ (∀ q : Nat, q < 5 → (q : Int) < po → Mrk (trN s.1 T p (xk side) per s.2.2.2.1 s.2.2.2.2.1) q) ∧ trN s.1 T p (xk side) per s.2.2.2.1 s.2.2.2.2.1 0 = N 0) := by
  have hb' := hb
  obtain ⟨hp, hq, hs, ho, he⟩ := hb'
  obtain ⟨hxk, hk2⟩ := xk_r hs
  have ht := W.t2 hp hq
  have hrz := (W.2.1 p hp hq).2
  have m := hk p hp hq
  have W1 := W.mk m
  have hM1 : MnyD D (mkN N p) T L po := Mny_cg hM (fun j hj => mkN_at m (by omega)) (fun q w hw => mkN_at m (by omega))
  have hm1 := Mrk_all hp hq hk hrz.1
  have r1 := uc_r ht hk2 hper
  have r2 := uc_r ht (show 1 - xk side < 2 by omega) hper
  have hl := swap_loop_m (D := D) (T := T) (th := th) (pe := pe) hb hper hD hd (N (uc T p (xk side) per)) 50 (ae0 (mkN N p) p side e) (mkN N p, L, amount, 0, 0, 0, 0) (by omega) W1 h12 ⟨fun q => ae0_ge hs q, by show 0 ≤ amount ∧ amount ≤ 10000000000; omega⟩ (by show (0 : Int) ≤ 0 ∧ (0 : Int) ≤ _; omega) (by show (0 : Int) ≤ 0 ∧ (0 : Int) ≤ _; omega)
  have ee : swp T p side e o 50 (ae0 (mkN N p) p side e) (mkN N p, L, amount, 0, 0, 0, 0) = s := es
  rw [ee] at hl
  obtain ⟨l1, l2, l3, l4, l5, l6⟩ := hl
  have l1' : 0 ≤ s.2.2.2.1 ∧ s.2.2.2.1 ≤ 1000000000000 := l1
  have l3' : o = 0 → s.2.2.2.1 + s.2.2.1 = 0 + amount := l3
  have l4' : o = 1 → s.2.2.2.2.1 + s.2.2.1 = 0 + amount := l4
  have l5' : (∀ q w, w < 23 → 6 ≤ w → s.1 (22 + 23 * q + w) = mkN N p (22 + 23 * q + w)) ∧ s.1 0 = mkN N p 0 := l5
  refine ⟨l1', l2, fun q => by have := l3' q; omega, fun q => by have := l4' q; omega, fun hF Ws => ?_⟩
  have e0 := trN_0 (p := p) (k := xk side) (per := per) hM1 ht hk2 hper
  have l6' : N (uc T p (xk side) per) - 0 ≤ trN (mkN N p) T p (xk side) per 0 0 (uc T p (xk side) per) → MnyD D (trN (mkN N p) T p (xk side) per 0 0) T L po → s.2.2.2.1 ≤ N (uc T p (xk side) per) → MnyD D (trN s.1 T p (xk side) per s.2.2.2.1 s.2.2.2.2.1) T s.2.1 po := l6
  rw [e0] at l6'
  have hcell : ∀ j, j < 2 ∨ 22 ≤ j → trN s.1 T p (xk side) per s.2.2.2.1 s.2.2.2.2.1 j = s.1 j := fun j hj => by rw [trN_at ht hk2, if_neg (by omega), if_neg (by omega)]
  refine ⟨l6' (by rw [mkN_at m (by omega)]; omega) hM1 hF, ?_, fun q hq5 hqo => ?_, ?_⟩
  · refine ⟨Ws.1, fun q hq5 hqo => ⟨(Ws.2.1 q hq5 hqo).1, ?_⟩, Ws.2.2⟩
    have := (Ws.2.1 q hq5 hqo).2
    unfold Rz at *
    rw [hcell _ (by omega), hcell _ (by omega)]
    exact this
  · have h0 : trN s.1 T p (xk side) per s.2.2.2.1 s.2.2.2.2.1 0 = mkN N p 0 := by rw [hcell 0 (by omega)]; exact l5'.2
    have hw : ∀ w, w < 23 → 6 ≤ w → trN s.1 T p (xk side) per s.2.2.2.1 s.2.2.2.2.1 (22 + 23 * q + w) = mkN N p (22 + 23 * q + w) := fun w a1 a2 => by rw [hcell _ (by omega)]; exact l5'.1 q w a1 a2
    obtain ⟨n1, n2, n3, n4⟩ := hm1 q hq5 hqo
    have e6 := hw 6 (by omega) (by omega)
    refine ⟨by rw [e6]; exact n1, by rw [hw 7 (by omega) (by omega), hw 8 (by omega) (by omega)]; exact n2, fun i hi => ?_, fun i hi => ?_⟩
    · rw [e6] at hi
      rw [hw (7 + 2 * i) (by omega) (by omega), hw (7 + 2 * (i + 1)) (by omega) (by omega), hw (8 + 2 * i) (by omega) (by omega), hw (8 + 2 * (i + 1)) (by omega) (by omega)]
      exact n3 i hi
    · rw [e6] at hi
      rw [hw (7 + 2 * i) (by omega) (by omega), h0]
      exact n4 i hi
  · rw [hcell 0 (by omega), l5'.2, mkN_at m (by omega)]
end SM
