/-! what comes out of a swap is an int above 0 or 0 -/
section GN
variable {N T : Nat → Int} {L : List (Nat → Int)} {th pe po : Int}
theorem go_t {side l r a f left : Int} (h : Pst 0 side l r a f left) : sGo 0 side l r a f left ≤ 808 * (if side = 0 then r - sRt 0 side l r a f left else sRt 0 side l r a f left - r) := by
  have hrt := sRt_r h
  obtain ⟨ho, hs, hl, hr, ha, h0, h1, hf, hle⟩ := h
  have e : sGo 0 side l r a f left = if side = 0 then snd' l (sRt 0 side l r a f left) r 0 else fst' l r (sRt 0 side l r a f left) 0 := by
    unfold sGo; rw [if_pos rfl]
  rw [e]
  generalize sRt 0 side l r a f left = r' at *
  rcases hs with rfl | rfl
  · have hq := hrt.1 rfl
    rw [if_pos rfl, if_pos rfl]
    show l * (r - r') / 100000 ≤ _
    have m : l * (r - r') ≤ 12000000 * (r - r') := Int.mul_le_mul_of_nonneg_right hl.2 (by omega)
    omega
  · have hq := hrt.2 rfl
    rw [if_neg (by omega), if_neg (by omega)]
    show l * 100000 * (r' - r) / (r * r') ≤ _
    have m0 : 38554 * 38554 ≤ r * r' := Int.mul_le_mul hr.1 (by omega) (by omega) (by omega)
    have m1 : l * 100000 * (r' - r) ≤ 808 * (r * r') * (r' - r) := Int.mul_le_mul_of_nonneg_right (by omega) (by omega)
    have m2 : 808 * (r * r') * (r' - r) = 808 * (r' - r) * (r * r') := by
      generalize r * r' = x
      rw [Int.mul_assoc, Int.mul_assoc, Int.mul_comm x (r' - r)]
    exact Int.ediv_le_of_le_mul (by omega) (by omega)
theorem swp_go {p : Nat} {side e : Int} (hb : Pbg p po side e 0) : ∀ (n : Nat) (ae : Bool) (s : SW), WF s.1 T s.2.1 th pe po → s.2.1.length ≤ 12 → Pae p side e ae s → 0 ≤ s.2.2.2.2.1 → s.2.2.2.2.1 + 808 * (if side = 0 then xr s.1 p - 38554 else 259374 - xr s.1 p) ≤ 178422560 → (swp T p side e 0 n ae s).2.2.2.2.1 ≤ 178422560 := by
  intro n
  induction n with
  | zero =>
    intro ae s W h12 ha hg0 hg
    have hrz : Rzz (xr s.1 p) (xz s.1 p) := (W.2.1 p hb.1 hb.2.1).2
    have b1 := rtz_r (t := xz s.1 p) (by have := hrz.1; omega) (by have := hrz.1; omega)
    have b2 := rtz_r (t := xz s.1 p + 1) (by have := hrz.1; omega) (by have := hrz.1; omega)
    have := hrz.2
    show s.2.2.2.2.1 ≤ _
    split at hg <;> omega
  | succ n ih =>
    intro ae s W h12 ha hg0 hg
    have e2 : swp T p side e 0 (n + 1) ae s = if s.2.2.1 ≤ 0 ∨ ae = true then s else swp T p side e 0 n (xE s.1 T s.2.1 p side e 0 s.2.2.1) (swS T p side e 0 s) := rfl
    rw [e2]
    have hrz : Rzz (xr s.1 p) (xz s.1 p) := (W.2.1 p hb.1 hb.2.1).2
    have b1 := rtz_r (t := xz s.1 p) (by have := hrz.1; omega) (by have := hrz.1; omega)
    have b2 := rtz_r (t := xz s.1 p + 1) (by have := hrz.1; omega) (by have := hrz.1; omega)
    have hr2 := hrz.2
    by_cases c : s.2.2.1 ≤ 0 ∨ ae = true
    · rw [if_pos c]
      split at hg <;> omega
    · rw [if_neg c]
      have hgo := Pgo_of (T := T) hb ha c
      obtain ⟨w1, w2, w3, w4⟩ := swS_next hb ha c W h12
      obtain ⟨x1, x2, x3, x4⟩ := xN_WF W h12 hgo
      obtain ⟨hP, hA, hA0, hA1, _⟩ := hgo.pst W h12
      have k3 : 0 ≤ xGo s.1 T s.2.1 p side e 0 s.2.2.1 := (sGo_nn hP).1
      have k4 : xGo s.1 T s.2.1 p side e 0 s.2.2.1 ≤ 808 * (if side = 0 then xr s.1 p - xRt s.1 T s.2.1 p side e 0 s.2.2.1 else xRt s.1 T s.2.1 p side e 0 s.2.2.1 - xr s.1 p) := go_t hP
      have f2 : (swS T p side e 0 s).2.2.2.2.1 = w64 (s.2.2.2.2.1 + xGo s.1 T s.2.1 p side e 0 s.2.2.1) := rfl
      have f1 : xr (swS T p side e 0 s).1 p = xRt s.1 T s.2.1 p side e 0 s.2.2.1 := x2
      have hrt : (side = 0 → rtz (xA s.1 s.2.1 p side e) ≤ xRt s.1 T s.2.1 p side e 0 s.2.2.1 ∧ xRt s.1 T s.2.1 p side e 0 s.2.2.1 ≤ xr s.1 p) ∧ (side = 1 → xr s.1 p ≤ xRt s.1 T s.2.1 p side e 0 s.2.2.1 ∧ xRt s.1 T s.2.1 p side e 0 s.2.2.1 ≤ rtz (xA s.1 s.2.1 p side e)) := sRt_r hP
      have ba := rtz_r hA.1 hA.2
      have hw : w64 (s.2.2.2.2.1 + xGo s.1 T s.2.1 p side e 0 s.2.2.1) = s.2.2.2.2.1 + xGo s.1 T s.2.1 p side e 0 s.2.2.1 := by
        rcases hb.2.2.1 with hs | hs
        · rw [if_pos hs] at hg k4
          have := hrt.1 hs
          exact w64_id (by omega) (by omega)
        · rw [if_neg (by omega)] at hg k4
          have := hrt.2 hs
          exact w64_id (by omega) (by omega)
      refine ih _ _ w1 w2 w3 (by rw [f2, hw]; omega) ?_
      rw [f2, f1, hw]
      rcases hb.2.2.1 with hs | hs
      · rw [if_pos hs] at hg k4 ⊢
        omega
      · rw [if_neg (by omega)] at hg k4 ⊢
        omega
theorem swap_go (W : WF N T L th pe po) (h12 : L.length ≤ 12) {p : Nat} {side e amount : Int} (hb : Pbg p po side e 0) (ha : 0 < amount ∧ amount ≤ 10000000000) : (swap N T L p side amount e 0).2.2.2.2.1 ≤ 178422560 := by
  have hrz : Rzz (xr N p) (xz N p) := (W.2.1 p hb.1 hb.2.1).2
  have b1 := rtz_r (t := xz N p) (by have := hrz.1; omega) (by have := hrz.1; omega)
  have b2 := rtz_r (t := xz N p + 1) (by have := hrz.1; omega) (by have := hrz.1; omega)
  have := hrz.2
  refine swp_go hb 50 _ (N, L, amount, 0, 0, 0, 0) W h12 ⟨fun q => ae0_ge hb.2.2.1 q, by show 0 ≤ amount ∧ amount ≤ 10000000000; omega⟩ (by show (0 : Int) ≤ 0; omega) ?_
  show (0 : Int) + 808 * (if side = 0 then xr N p - 38554 else 259374 - xr N p) ≤ 178422560
  split <;> omega
end GN
