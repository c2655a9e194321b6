/-! zones behind a swap, by the amount -/
def Fth (side z z' : Int) : Prop := (side = 0 → z' ≤ z) ∧ (side = 1 → z ≤ z')
theorem Fth.rfl {side z : Int} : Fth side z z := ⟨fun _ => Int.le_refl _, fun _ => Int.le_refl _⟩
theorem Fth.trans {side z z' z'' : Int} (a : Fth side z z') (b : Fth side z' z'') : Fth side z z'' := ⟨fun h => Int.le_trans (b.1 h) (a.1 h), fun h => Int.le_trans (a.2 h) (b.2 h)⟩
def thr (side zone z : Int) : Bool := if side = 0 then decide (z ≤ zone) else decide (zone ≤ z)
theorem thr_f {side zone z z' : Int} (hs : side = 0 ∨ side = 1) (h : Fth side z z') (ht : thr side zone z = true) : thr side zone z' = true := by
  unfold thr at *
  rcases hs with rfl | rfl
  · rw [if_pos rfl, decide_eq_true_eq] at *
    have := h.1 rfl
    omega
  · rw [if_neg (by omega), decide_eq_true_eq] at *
    have := h.2 rfl
    omega
def PG (N : Nat → Int) (p : Nat) (po side e : Int) : Prop := p < 5 ∧ (p : Int) < po ∧ (side = 0 ∨ side = 1) ∧ (0 ≤ e ∧ e ≤ 40) ∧ (if side = 0 then e ≤ xz N p else xz N p < e)
def wh (N T : Nat → Int) (L : List (Nat → Int)) (p : Nat) (side e : Int) : Int := sMost 0 side (xl N L p) (xr N p) (rtz (xA N L p side e)) + cdiv (sMost 0 side (xl N L p) (xr N p) (rtz (xA N L p side e)) * T (5 * p + 2)) (1000 - T (5 * p + 2))
def zl (T : Nat → Int) (p : Nat) (side e : Int) : Nat → (Nat → Int) → List (Nat → Int) → Int → Int
  | 0, N, _, _ => xz N p
  | n + 1, N, L, left => if left ≤ 0 then xz N p else if xC N T L p side e 0 left = true then zl T p side e n (xN N T L p side e 0 left) (xL N T L p side e 0 left) (xLe N T L p side e 0 left) else xZ N T L p side e 0 left
section ZL
variable {N T : Nat → Int} {L : List (Nat → Int)} {th pe po : Int} {p : Nat} {side e : Int}
theorem PG.go (h : PG N p po side e) {left : Int} (hl : 0 < left ∧ left ≤ 10000000000) : Pgo N T L p po side e 0 left := ⟨h.1, h.2.1, h.2.2.1, Or.inl rfl, h.2.2.2.1, h.2.2.2.2, hl⟩
theorem swp_stop (n : Nat) {o : Int} {ae : Bool} {s : SW} (h : s.2.2.1 ≤ 0 ∨ ae = true) : swp T p side e o n ae s = s := by
  cases n with
  | zero => rfl
  | succ n =>
    have e2 : swp T p side e o (n + 1) ae s = if s.2.2.1 ≤ 0 ∨ ae = true then s else swp T p side e o n (xE s.1 T s.2.1 p side e o s.2.2.1) (swS T p side e o s) := rfl
    rw [e2, if_pos h]
theorem xCE {N : Nat → Int} {L : List (Nat → Int)} {left : Int} (h : xRe N T L p side e 0 left = true) : xC N T L p side e 0 left = !xE N T L p side e 0 left := by
  unfold xC xE
  rw [h, Bool.true_and, Bool.true_and]
theorem PG.next (h : PG N p po side e) (W : WF N T L th pe po) (h12 : L.length ≤ 12) {left : Int} (hl : 0 < left ∧ left ≤ 10000000000) (hc : xC N T L p side e 0 left = true) : PG (xN N T L p side e 0 left) p po side e := by
  have hg : Pgo N T L p po side e 0 left := h.go hl
  obtain ⟨w1, w2, w3, w4⟩ := xN_WF W h12 hg
  obtain ⟨z1, z2, z3⟩ := xZ_rz W h12 hg
  refine ⟨h.1, h.2.1, h.2.2.1, h.2.2.2.1, ?_⟩
  rw [show xz (xN N T L p side e 0 left) p = xZ N T L p side e 0 left from w3]
  rcases h.2.2.1 with hs | hs
  · rw [if_pos hs]
    exact ((z2 hs).2 hc).2.1
  · rw [if_neg (by omega)]
    exact ((z3 hs).2 hc).2.1
theorem zl_swp : ∀ (n : Nat) (N : Nat → Int) (L : List (Nat → Int)) (left : Int) (a b c d : Int), PG N p po side e → WF N T L th pe po → L.length ≤ 12 → (0 ≤ left ∧ left ≤ 10000000000) → xz (swp T p side e 0 n false (N, L, left, a, b, c, d)).1 p = zl T p side e n N L left := by
  intro n
  induction n with
  | zero => intro N L left a b c d _ _ _ _; rfl
  | succ n ih =>
    intro N L left a b c d hG W h12 hl
    have e2 : swp T p side e 0 (n + 1) false (N, L, left, a, b, c, d) = if left ≤ 0 ∨ false = true then (N, L, left, a, b, c, d) else swp T p side e 0 n (xE N T L p side e 0 left) (swS T p side e 0 (N, L, left, a, b, c, d)) := rfl
    rw [e2, zl]
    by_cases c0 : left ≤ 0
    · rw [if_pos (Or.inl c0), if_pos c0]
    rw [if_neg (by rintro (q | q); exact c0 q; exact absurd q (by decide)), if_neg c0]
    have hg : Pgo N T L p po side e 0 left := hG.go (by omega)
    obtain ⟨w1, w2, w3, w4⟩ := xN_WF W h12 hg
    obtain ⟨hP, hA, hA0, hA1, hrz⟩ := hg.pst W h12
    have hle : 0 ≤ xLe N T L p side e 0 left ∧ xLe N T L p side e 0 left ≤ left ∧ (xRe N T L p side e 0 left = false → xLe N T L p side e 0 left = 0) := sLe_r hP
    have es : ∃ a' b' c' d', swS T p side e 0 (N, L, left, a, b, c, d) = (xN N T L p side e 0 left, xL N T L p side e 0 left, xLe N T L p side e 0 left, a', b', c', d') := ⟨_, _, _, _, rfl⟩
    obtain ⟨a', b', c', d', es⟩ := es
    rw [es]
    by_cases cr : xRe N T L p side e 0 left = true
    · by_cases cc : xC N T L p side e 0 left = true
      · have ce : xE N T L p side e 0 left = false := by
          have := xCE cr
          rw [cc] at this
          cases hE : xE N T L p side e 0 left
          · rfl
          · rw [hE] at this; exact absurd this (by decide)
        rw [if_pos cc, ce]
        exact ih _ _ _ _ _ _ _ (hG.next W h12 (by omega) cc) w1 w4 (by omega)
      · have ce : xE N T L p side e 0 left = true := by
          have := xCE cr
          cases hE : xE N T L p side e 0 left
          · rw [hE] at this; exact absurd this cc
          · rfl
        rw [if_neg cc, swp_stop n (Or.inr ce)]
        exact w3
    · have cr' : xRe N T L p side e 0 left = false := by
        cases h : xRe N T L p side e 0 left
        · rfl
        · exact absurd h cr
      have cc : ¬ xC N T L p side e 0 left = true := by
        unfold xC
        rw [cr']
        simp
      rw [if_neg cc, swp_stop n (Or.inl (by show xLe N T L p side e 0 left ≤ 0; rw [hle.2.2 cr']; omega))]
      exact w3
theorem xRe_wh (hf : 0 ≤ T (5 * p + 2) ∧ T (5 * p + 2) ≤ 99) (left : Int) : xRe N T L p side e 0 left = true ↔ wh N T L p side e ≤ left := by
  unfold xRe sRe wh sN
  rw [decide_eq_true_eq, if_pos rfl, whole_le hf]
theorem fee_r (W : WF N T L th pe po) (hG : PG N p po side e) : 0 ≤ T (5 * p + 2) ∧ T (5 * p + 2) ≤ 99 := by
  have h := (W.2.1 p hG.1 hG.2.1).1
  unfold Told at h
  exact h.2.2.2.1
theorem wh_r (W : WF N T L th pe po) (h12 : L.length ≤ 12) (hG : PG N p po side e) : 0 ≤ wh N T L p side e ∧ wh N T L p side e ≤ 600000000 := by
  have hg : Pgo N T L p po side e 0 1 := hG.go (by omega)
  obtain ⟨hP, _⟩ := hg.pst W h12
  have hm := sMost_r hP
  have hf := fee_r W hG
  unfold wh
  generalize sMost 0 side (xl N L p) (xr N p) (rtz (xA N L p side e)) = w at *
  have m1 : w * T (5 * p + 2) ≤ w * (1000 - T (5 * p + 2)) := Int.mul_le_mul_of_nonneg_left (by omega) hm.1
  have m2 : 0 ≤ w * T (5 * p + 2) := Int.mul_nonneg hm.1 hf.1
  have h1 := (cdiv_le (x := w * T (5 * p + 2)) (y := 1000 - T (5 * p + 2)) (t := w) (by omega)).2 m1
  have h2 := cdiv_r (x := w * T (5 * p + 2)) (y := 1000 - T (5 * p + 2)) m2 (by omega)
  omega
/-- a step that reaches its aim is the same for every amount -/
theorem x_same {u v : Int} (hu : xRe N T L p side e 0 u = true) (hv : xRe N T L p side e 0 v = true) : xRt N T L p side e 0 u = xRt N T L p side e 0 v ∧ xC N T L p side e 0 u = xC N T L p side e 0 v ∧ xE N T L p side e 0 u = xE N T L p side e 0 v ∧ xZ N T L p side e 0 u = xZ N T L p side e 0 v ∧ xN N T L p side e 0 u = xN N T L p side e 0 v ∧ xL N T L p side e 0 u = xL N T L p side e 0 v := by
  have hu' : sRe 0 side (xl N L p) (xr N p) (rtz (xA N L p side e)) (T (5 * p + 2)) u = true := hu
  have hv' : sRe 0 side (xl N L p) (xr N p) (rtz (xA N L p side e)) (T (5 * p + 2)) v = true := hv
  have e1 : xRt N T L p side e 0 u = xRt N T L p side e 0 v := by
    unfold xRt sRt
    rw [if_pos hu', if_pos hv']
  have e2 : xC N T L p side e 0 u = xC N T L p side e 0 v := by
    unfold xC
    rw [hu, hv]
  have e3 : xE N T L p side e 0 u = xE N T L p side e 0 v := by
    unfold xE
    rw [hu, hv]
  have e4 : xZ N T L p side e 0 u = xZ N T L p side e 0 v := by
    unfold xZ
    rw [if_pos hu, if_pos hv]
  have e5 : xCo N T L p side e 0 u = xCo N T L p side e 0 v := by
    unfold xCo sCo
    rw [if_pos rfl, if_pos rfl, if_pos hu', if_pos hv']
  have e5' : sCo 0 side (xl N L p) (xr N p) (rtz (xA N L p side e)) (T (5 * p + 2)) u = sCo 0 side (xl N L p) (xr N p) (rtz (xA N L p side e)) (T (5 * p + 2)) v := e5
  have e6 : xFe N T L p side e 0 u = xFe N T L p side e 0 v := by
    unfold xFe sFe
    rw [if_neg (fun q => q.2 hu'), if_neg (fun q => q.2 hv'), e5']
  have e1' : sRt 0 side (xl N L p) (xr N p) (rtz (xA N L p side e)) (T (5 * p + 2)) u = sRt 0 side (xl N L p) (xr N p) (rtz (xA N L p side e)) (T (5 * p + 2)) v := e1
  have e7 : xGo N T L p side e 0 u = xGo N T L p side e 0 v := by
    unfold xGo sGo
    rw [if_pos rfl, if_pos rfl, e1']
  have e8 : x0 N T L p side e 0 u = x0 N T L p side e 0 v := by
    unfold x0
    rw [e6]
  have e9 : x1 N T L p side e 0 u = x1 N T L p side e 0 v := by
    unfold x1
    rw [e8, e5, e6, e7, e1]
  have e10 : x2 N T L p side e 0 u = x2 N T L p side e 0 v := by
    unfold x2
    rw [e9, e2, e4]
  have e11 : xL1 N T L p side e 0 u = xL1 N T L p side e 0 v := by
    unfold xL1
    rw [e6]
  refine ⟨e1, e2, e3, e4, ?_, ?_⟩
  · unfold xN
    rw [e2, e1, e4, e10, e11]
  · unfold xL
    rw [e2, e11]
theorem xLe_wh {u : Int} (hu : xRe N T L p side e 0 u = true) : xLe N T L p side e 0 u = u - wh N T L p side e := by
  have hu' : sRe 0 side (xl N L p) (xr N p) (rtz (xA N L p side e)) (T (5 * p + 2)) u = true := hu
  have e5 : sCo 0 side (xl N L p) (xr N p) (rtz (xA N L p side e)) (T (5 * p + 2)) u = sMost 0 side (xl N L p) (xr N p) (rtz (xA N L p side e)) := by
    unfold sCo
    rw [if_pos rfl, if_pos hu']
  unfold xLe sLe sFe wh
  rw [if_pos rfl, if_neg (fun q => q.2 hu'), e5]
/-- zones move on alone -/
theorem xZ_f (W : WF N T L th pe po) (h12 : L.length ≤ 12) (hG : PG N p po side e) {left : Int} (hl : 0 < left ∧ left ≤ 10000000000) : Fth side (xz N p) (xZ N T L p side e 0 left) := by
  obtain ⟨z1, z2, z3⟩ := xZ_rz W h12 (hG.go hl)
  exact ⟨fun h => (z2 h).1, fun h => (z3 h).1⟩
theorem zl_on : ∀ (n : Nat) (N : Nat → Int) (L : List (Nat → Int)) (left : Int), PG N p po side e → WF N T L th pe po → L.length ≤ 12 → (0 ≤ left ∧ left ≤ 10000000000) → Fth side (xz N p) (zl T p side e n N L left) := by
  intro n
  induction n with
  | zero => intro N L left _ _ _ _; exact Fth.rfl
  | succ n ih =>
    intro N L left hG W h12 hl
    rw [zl]
    by_cases c0 : left ≤ 0
    · rw [if_pos c0]; exact Fth.rfl
    rw [if_neg c0]
    have hz := xZ_f W h12 hG (left := left) (by omega)
    have hg : Pgo N T L p po side e 0 left := hG.go (by omega)
    obtain ⟨w1, w2, w3, w4⟩ := xN_WF W h12 hg
    obtain ⟨hP, _⟩ := hg.pst W h12
    have hle : 0 ≤ xLe N T L p side e 0 left ∧ xLe N T L p side e 0 left ≤ left ∧ (xRe N T L p side e 0 left = false → xLe N T L p side e 0 left = 0) := sLe_r hP
    by_cases cc : xC N T L p side e 0 left = true
    · rw [if_pos cc]
      have h := ih _ _ (xLe N T L p side e 0 left) (hG.next W h12 (by omega) cc) w1 w4 (by omega)
      rw [show xz (xN N T L p side e 0 left) p = xZ N T L p side e 0 left from w3] at h
      exact hz.trans h
    · rw [if_neg cc]; exact hz
theorem zof_mono {r r' : Int} (h : 38554 ≤ r) (h2 : r ≤ r') : zof r ≤ zof r' := by
  have hz := zof_r h
  have h1 := (zof_iff h hz.1 hz.2).2 (Int.le_refl _)
  exact (zof_iff (r := r') (by omega) hz.1 hz.2).1 (by omega)
theorem cdiv_anti {x y y' : Int} (hx : 0 ≤ x) (hy : 0 < y) (h : y ≤ y') : cdiv x y' ≤ cdiv x y := by
  have h1 := (cdiv_le (x := x) (y := y) (t := cdiv x y) hy).1 (Int.le_refl _)
  have h2 := (cdiv_r hx hy).1
  have h3 : cdiv x y * y ≤ cdiv x y * y' := Int.mul_le_mul_of_nonneg_left h h2
  exact (cdiv_le (by omega)).2 (by omega)
/-- within a stretch: more goes on as far at least -/
theorem xZ_mono (W : WF N T L th pe po) (h12 : L.length ≤ 12) (hG : PG N p po side e) {u v : Int} (hu : 0 < u) (huv : u ≤ v) (hv : v < wh N T L p side e) : Fth side (xZ N T L p side e 0 u) (xZ N T L p side e 0 v) := by
  have hf := fee_r W hG
  have hw := wh_r W h12 hG
  have ru : ¬ xRe N T L p side e 0 u = true := fun q => by have := (xRe_wh hf u).1 q; omega
  have rv : ¬ xRe N T L p side e 0 v = true := fun q => by have := (xRe_wh hf v).1 q; omega
  have ru' : ¬ sRe 0 side (xl N L p) (xr N p) (rtz (xA N L p side e)) (T (5 * p + 2)) u = true := ru
  have rv' : ¬ sRe 0 side (xl N L p) (xr N p) (rtz (xA N L p side e)) (T (5 * p + 2)) v = true := rv
  obtain ⟨hPu, hA, hA0, hA1, hrz⟩ := (hG.go (left := u) (T := T) (L := L) (by omega)).pst W h12
  obtain ⟨hPv, _⟩ := (hG.go (left := v) (T := T) (L := L) (by omega)).pst W h12
  have hru := sRt_r hPu
  have hrv := sRt_r hPv
  have hl := (sRe_l hPu (by cases h : sRe 0 side (xl N L p) (xr N p) (rtz (xA N L p side e)) (T (5 * p + 2)) u; rfl; exact absurd h ru')).1
  have hnu := sN_r hPu
  have hnn : sN 0 (T (5 * p + 2)) u ≤ sN 0 (T (5 * p + 2)) v := by
    unfold sN
    rw [if_pos rfl, if_pos rfl]
    exact Int.ediv_le_ediv (by omega) (Int.mul_le_mul_of_nonneg_right huv (by omega))
  have ba := rtz_r hA.1 hA.2
  unfold xZ
  rw [if_neg ru, if_neg rv]
  unfold xRt
  obtain ⟨_, _, hl2, hr, ha, _⟩ := hPu
  rcases hG.2.2.1 with hs | hs
  · subst hs
    have eu : sRt 0 0 (xl N L p) (xr N p) (rtz (xA N L p 0 e)) (T (5 * p + 2)) u = cdiv (xl N L p * 100000 * xr N p) (xl N L p * 100000 + sN 0 (T (5 * p + 2)) u * xr N p) := by
      unfold sRt; rw [if_neg ru', if_pos rfl, if_pos rfl]
    have ev : sRt 0 0 (xl N L p) (xr N p) (rtz (xA N L p 0 e)) (T (5 * p + 2)) v = cdiv (xl N L p * 100000 * xr N p) (xl N L p * 100000 + sN 0 (T (5 * p + 2)) v * xr N p) := by
      unfold sRt; rw [if_neg rv', if_pos rfl, if_pos rfl]
    have h1 : sN 0 (T (5 * p + 2)) u * xr N p ≤ sN 0 (T (5 * p + 2)) v * xr N p := Int.mul_le_mul_of_nonneg_right hnn (by omega)
    have h2 : 0 ≤ sN 0 (T (5 * p + 2)) u * xr N p := Int.mul_nonneg hnu.1 (by omega)
    have h3 : 0 ≤ xl N L p * 100000 * xr N p := Int.mul_nonneg (by omega) (by omega)
    have h4 : sRt 0 0 (xl N L p) (xr N p) (rtz (xA N L p 0 e)) (T (5 * p + 2)) v ≤ sRt 0 0 (xl N L p) (xr N p) (rtz (xA N L p 0 e)) (T (5 * p + 2)) u := by
      rw [eu, ev]
      exact cdiv_anti h3 (by omega) (by omega)
    have h5 := zof_mono (r := sRt 0 0 (xl N L p) (xr N p) (rtz (xA N L p 0 e)) (T (5 * p + 2)) v) (by have := (hrv.1 rfl).1; omega) h4
    refine ⟨fun _ => ?_, fun h => by omega⟩
    rw [zBe_0, zBe_0]
    split <;> split <;> omega
  · subst hs
    have eu : sRt 0 1 (xl N L p) (xr N p) (rtz (xA N L p 1 e)) (T (5 * p + 2)) u = xr N p + sN 0 (T (5 * p + 2)) u * 100000 / xl N L p := by
      unfold sRt; rw [if_neg ru', if_pos rfl, if_neg (by omega)]
    have ev : sRt 0 1 (xl N L p) (xr N p) (rtz (xA N L p 1 e)) (T (5 * p + 2)) v = xr N p + sN 0 (T (5 * p + 2)) v * 100000 / xl N L p := by
      unfold sRt; rw [if_neg rv', if_pos rfl, if_neg (by omega)]
    have h4 : sRt 0 1 (xl N L p) (xr N p) (rtz (xA N L p 1 e)) (T (5 * p + 2)) u ≤ sRt 0 1 (xl N L p) (xr N p) (rtz (xA N L p 1 e)) (T (5 * p + 2)) v := by
      rw [eu, ev]
      have := Int.ediv_le_ediv (a := sN 0 (T (5 * p + 2)) u * 100000) (b := sN 0 (T (5 * p + 2)) v * 100000) (c := xl N L p) (by omega) (by omega)
      omega
    have h5 := zof_mono (r := sRt 0 1 (xl N L p) (xr N p) (rtz (xA N L p 1 e)) (T (5 * p + 2)) u) (by have := (hru.2 rfl).1; omega) h4
    refine ⟨fun h => by omega, fun _ => ?_⟩
    rw [zBe_1, zBe_1]
    split <;> split <;> omega
/-- what does not reach the aim is behind what does -/
theorem xZ_less (W : WF N T L th pe po) (h12 : L.length ≤ 12) (hG : PG N p po side e) {u v : Int} (hu : 0 < u ∧ u ≤ 10000000000) (hv : 0 < v ∧ v ≤ 10000000000) (ru : ¬ xRe N T L p side e 0 u = true) (rv : xRe N T L p side e 0 v = true) : Fth side (xZ N T L p side e 0 u) (xZ N T L p side e 0 v) := by
  obtain ⟨hP, hA, hA0, hA1, hrz⟩ := (hG.go (T := T) (L := L) hu).pst W h12
  have hrt := sRt_r hP
  have hrt' : (side = 0 → rtz (xA N L p side e) ≤ xRt N T L p side e 0 u ∧ xRt N T L p side e 0 u ≤ xr N p) ∧ (side = 1 → xr N p ≤ xRt N T L p side e 0 u ∧ xRt N T L p side e 0 u ≤ rtz (xA N L p side e)) := hrt
  obtain ⟨c1, c2, c3⟩ := zBe_rz (r' := xRt N T L p side e 0 u) hG.2.2.1 hrz hA (fun q => ⟨(hA0 q).2, hrt'.1 q⟩) (fun q => ⟨(hA1 q).1, hrt'.2 q⟩)
  unfold xZ
  rw [if_neg ru, if_pos rv]
  refine ⟨fun h => ?_, fun h => ?_⟩
  · have := c2 h
    simp only [if_pos h]
    by_cases ca : xA N L p side e = e
    · rw [if_pos ca]; omega
    · rw [if_neg ca]; omega
  · have := c3 h
    have h0 : ¬ side = 0 := by omega
    simp only [if_neg h0]
    by_cases ca : xA N L p side e = e
    · rw [if_pos ca]; omega
    · rw [if_neg ca]; omega
theorem zl_mono : ∀ (n : Nat) (N : Nat → Int) (L : List (Nat → Int)) (u v : Int), PG N p po side e → WF N T L th pe po → L.length ≤ 12 → 0 ≤ u → u ≤ v → v ≤ 10000000000 → Fth side (zl T p side e n N L u) (zl T p side e n N L v) := by
  intro n
  induction n with
  | zero => intro N L u v _ _ _ _ _ _; exact Fth.rfl
  | succ n ih =>
    intro N L u v hG W h12 hu huv hv
    by_cases c0 : u ≤ 0
    · have e1 : zl T p side e (n + 1) N L u = xz N p := by rw [zl, if_pos c0]
      rw [e1]
      exact zl_on _ _ _ _ hG W h12 (by omega)
    have hf := fee_r W hG
    have fu := xRe_wh (N := N) (T := T) (L := L) (p := p) (side := side) (e := e) hf u
    have fv := xRe_wh (N := N) (T := T) (L := L) (p := p) (side := side) (e := e) hf v
    by_cases cv : xRe N T L p side e 0 v = true
    · by_cases cu : xRe N T L p side e 0 u = true
      · obtain ⟨s1, s2, s3, s4, s5, s6⟩ := x_same cu cv
        rw [zl, zl, if_neg c0, if_neg (show ¬ v ≤ 0 by omega), s2]
        by_cases cc : xC N T L p side e 0 v = true
        · rw [if_pos cc, if_pos cc, s5, s6, xLe_wh cu, xLe_wh cv]
          obtain ⟨w1, w2, w3, w4⟩ := xN_WF W h12 (hG.go (left := v) (T := T) (L := L) (by omega))
          exact ih _ _ _ _ (hG.next W h12 (by omega) cc) w1 w4 (by have := fu.1 cu; omega) (by omega) (by have := wh_r W h12 hG; omega)
        · rw [if_neg cc, if_neg cc, s4]
          exact Fth.rfl
      · have hcu : ¬ xC N T L p side e 0 u = true := by
          intro q
          unfold xC at q
          rw [Bool.and_eq_true] at q
          exact cu q.1
        have e1 : zl T p side e (n + 1) N L u = xZ N T L p side e 0 u := by rw [zl, if_neg c0, if_neg hcu]
        rw [e1]
        have hz := xZ_less W h12 hG (u := u) (v := v) (by omega) (by omega) cu cv
        rw [zl, if_neg (by omega)]
        by_cases cc : xC N T L p side e 0 v = true
        · rw [if_pos cc]
          obtain ⟨w1, w2, w3, w4⟩ := xN_WF W h12 (hG.go (left := v) (T := T) (L := L) (by omega))
          have h := zl_on n _ _ (xLe N T L p side e 0 v) (hG.next W h12 (by omega) cc) w1 w4 (by rw [xLe_wh cv]; have := fv.1 cv; have := wh_r W h12 hG; omega)
          rw [show xz (xN N T L p side e 0 v) p = xZ N T L p side e 0 v from w3] at h
          exact hz.trans h
        · rw [if_neg cc]; exact hz
    · have cu : ¬ xRe N T L p side e 0 u = true := fun q => cv (fv.2 (by have := fu.1 q; omega))
      have hcu : ¬ xC N T L p side e 0 u = true := by
        intro q
        unfold xC at q
        rw [Bool.and_eq_true] at q
        exact cu q.1
      have hcv : ¬ xC N T L p side e 0 v = true := by
        intro q
        unfold xC at q
        rw [Bool.and_eq_true] at q
        exact cv q.1
      rw [zl, zl, if_neg c0, if_neg (show ¬ v ≤ 0 by omega), if_neg hcu, if_neg hcv]
      exact xZ_mono W h12 hG (by omega) huv (by have : ¬ wh N T L p side e ≤ v := fun q => cv (fv.2 q); omega)
end ZL
