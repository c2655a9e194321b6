/-! one step: what it leaves fits together -/
section XT
variable {M : MZ} {N T : Nat → Int} {L : List (Nat → Int)} {th pe po : Int}
theorem shS_ok {s : Nat → Int} (h : Sok pe po s) (p : Nat) (z : Int) {k : Nat} (g : Int) : Sok pe po (shS p z k g s) := by
  obtain ⟨a, b, c, d, e, f⟩ := h
  have ee : ∀ w, w < 6 → shS p z k g s w = s w := fun w hw => shS_lo p z k g s hw
  refine ⟨by rw [ee 0 (by omega)]; exact a, by rw [ee 1 (by omega)]; exact b, by rw [ee 2 (by omega), ee 3 (by omega)]; exact c, by rw [ee 4 (by omega)]; exact d, by rw [ee 5 (by omega)]; exact e, fun w => ?_⟩
  unfold shS
  split
  · by_cases cw : w = 6 + k
    · subst cw
      rw [ud_at]
      have := w64_d (s (6 + k) + g)
      rw [w64_iff]
      exact this
    · rw [ud_ne cw]; exact f w
  · exact f w
theorem shR_ok (hL : Lok pe po L) (p : Nat) (z : Int) (k : Nat) (fee : Int) : Lok pe po (shR T L p z k fee) := by
  unfold shR
  split
  · exact hL
  · intro x hx
    obtain ⟨s, hs, rfl⟩ := List.mem_map.mp hx
    exact shS_ok (hL s hs) p z _
theorem shR_len (p : Nat) (z : Int) (k : Nat) (fee : Int) : (shR T L p z k fee).length = L.length := by
  unfold shR
  split
  · rfl
  · exact shL_len ..
theorem xk_r {side : Int} (hs : side = 0 ∨ side = 1) : ((xk side : Nat) : Int) = side ∧ xk side < 2 := by
  rcases hs with rfl | rfl
  · exact ⟨rfl, by decide⟩
  · exact ⟨rfl, by decide⟩
theorem x0_at {p : Nat} {side e o left : Int} (hs : side = 0 ∨ side = 1) {j : Nat} (hj : j ≠ hoC p (xk side)) : x0 N T L p side e o left j = N j := ud_ne hj
theorem x1_at {p : Nat} {side e o left : Int} {j : Nat} (h1 : j ≠ hc p (xk side)) (h2 : j ≠ hc p (1 - xk side)) (h3 : j ≠ 22 + 23 * p) (h4 : j ≠ hoC p (xk side)) : x1 N T L p side e o left j = N j := by
  unfold x1
  rw [ud_ne h3, ud_ne h2, ud_ne h1]
  exact ud_ne h4
/-- cells that a step leaves alone, but for the drops -/
theorem x2_at {p : Nat} {side e o left : Int} {j : Nat} (h1 : j ≠ hc p (xk side)) (h2 : j ≠ hc p (1 - xk side)) (h3 : j ≠ 22 + 23 * p) (h4 : j ≠ hoC p (xk side)) (h5 : j ≠ 22 + 23 * p + 1) (h6 : j ≠ 1) : x2 N T L p side e o left j = N j := by
  unfold x2
  rw [ud_ne h5]
  split
  · rw [ud_ne h6]; exact x1_at h1 h2 h3 h4
  · exact x1_at h1 h2 h3 h4
theorem x2_rz {p : Nat} {side e o left : Int} : x2 N T L p side e o left (22 + 23 * p) = xRt N T L p side e o left ∧ x2 N T L p side e o left (22 + 23 * p + 1) = xZ N T L p side e o left := by
  unfold x2
  refine ⟨?_, ud_at _ _ _⟩
  rw [ud_ne (by omega)]
  split
  · rw [ud_ne (by omega)]; exact ud_at _ _ _
  · exact ud_at _ _ _
/-- root and zone behind a step -/
theorem xZ_rz (W : WF N T L th pe po) (h12 : L.length ≤ 12) {p : Nat} {side e o left : Int} (h : Pgo N T L p po side e o left) : Rzz (xRt N T L p side e o left) (xZ N T L p side e o left) ∧ (side = 0 → xZ N T L p side e o left ≤ xz N p ∧ (xC N T L p side e o left = true → xZ N T L p side e o left < xz N p ∧ e ≤ xZ N T L p side e o left ∧ xA N L p side e = xZ N T L p side e o left + 1)) ∧ (side = 1 → xz N p ≤ xZ N T L p side e o left ∧ (xC N T L p side e o left = true → xz N p < xZ N T L p side e o left ∧ xZ N T L p side e o left < e ∧ xA N L p side e = xZ N T L p side e o left)) := by
  obtain ⟨hP, hA, hA0, hA1, hrz⟩ := h.pst W h12
  have hrt := sRt_r hP
  obtain ⟨hp, hq, hs, ho, he, hge, hle⟩ := h
  have hz := hrz.1
  by_cases hre : xRe N T L p side e o left = true
  · have er : xRt N T L p side e o left = rtz (xA N L p side e) := by
      have hre' : sRe o side (xl N L p) (xr N p) (rtz (xA N L p side e)) (T (5 * p + 2)) left = true := hre
      unfold xRt sRt
      rw [if_pos hre']
    unfold xZ xC
    rw [er, hre, if_pos rfl]
    by_cases ce : xA N L p side e = e
    · rw [if_pos ce, ce]
      have cC : (true && !decide (e = e)) = true ↔ False := by simp
      rcases hs with rfl | rfl
      · have := hA0 rfl
        rw [if_pos rfl]
        have b1 := rtz_lt (a := e) (b := e + 1) (by omega) (by omega) (by omega)
        exact ⟨⟨by omega, Int.le_refl _, by omega⟩, fun _ => ⟨by omega, fun q => (cC.mp q).elim⟩, fun q => by omega⟩
      · have := hA1 rfl
        rw [if_neg (by omega)]
        have b1 := rtz_lt (a := e - 1) (b := e) (by omega) (by omega) (by omega)
        exact ⟨⟨by omega, by omega, by rw [show e - 1 + 1 = e by omega]; exact Int.le_refl _⟩, fun q => by omega, fun _ => ⟨by omega, fun q => (cC.mp q).elim⟩⟩
    · rw [if_neg ce]
      rcases hs with rfl | rfl
      · have := hA0 rfl
        rw [if_pos rfl]
        have b1 := rtz_lt (a := xA N L p 0 e - 1) (b := xA N L p 0 e) (by omega) (by omega) (by omega)
        exact ⟨⟨by omega, by omega, by rw [show xA N L p 0 e - 1 + 1 = xA N L p 0 e by omega]; exact Int.le_refl _⟩, fun _ => ⟨by omega, fun _ => ⟨by omega, by omega, by omega⟩⟩, fun q => by omega⟩
      · have := hA1 rfl
        rw [if_neg (by omega)]
        have b1 := rtz_lt (a := xA N L p 1 e) (b := xA N L p 1 e + 1) (by omega) (by omega) (by omega)
        exact ⟨⟨by omega, Int.le_refl _, by omega⟩, fun q => by omega, fun _ => ⟨by omega, fun _ => ⟨by omega, by omega, rfl⟩⟩⟩
  · have eC : xC N T L p side e o left = false := by
      unfold xC
      simp [hre]
    unfold xZ
    rw [if_neg hre]
    obtain ⟨c1, c2, c3⟩ := zBe_rz (r' := xRt N T L p side e o left) hs hrz hA (fun q => ⟨(hA0 q).2, hrt.1 q⟩) (fun q => ⟨(hA1 q).1, hrt.2 q⟩)
    rw [eC]
    exact ⟨c1, fun q => ⟨(c2 q).2, fun q => by cases q⟩, fun q => ⟨(c3 q).1, fun q => by cases q⟩⟩
theorem x2_WF (W : WF N T L th pe po) (h12 : L.length ≤ 12) {p : Nat} {side e o left : Int} (h : Pgo N T L p po side e o left) : WF (x2 N T L p side e o left) T (xL1 N T L p side e o left) th pe po := by
  obtain ⟨z1, -, -⟩ := xZ_rz W h12 h
  obtain ⟨hp, hq, hs, ho, he, hge, hle⟩ := h
  refine ⟨?_, fun q hq5 hqo => ⟨(W.2.1 q hq5 hqo).1, ?_⟩, shR_ok W.2.2 _ _ _ _⟩
  · rcases W.1 with ⟨a, b, c, d⟩ | h
    · omega
    · exact Or.inr h
  · by_cases c : q = p
    · subst c
      show Rzz _ _
      rw [x2_rz.1, x2_rz.2]
      exact z1
    · have := (W.2.1 q hq5 hqo).2
      have hk := (xk_r hs).2
      unfold Rz at *
      rw [x2_at (by unfold hc; omega) (by unfold hc; omega) (by omega) (by unfold hoC; omega) (by omega) (by omega), x2_at (by unfold hc; omega) (by unfold hc; omega) (by omega) (by unfold hoC; omega) (by omega) (by omega)]
      exact this
theorem xN_WF (W : WF N T L th pe po) (h12 : L.length ≤ 12) {p : Nat} {side e o left : Int} (h : Pgo N T L p po side e o left) : WF (xN N T L p side e o left) T (xL N T L p side e o left) th pe po ∧ xN N T L p side e o left (22 + 23 * p) = xRt N T L p side e o left ∧ xN N T L p side e o left (22 + 23 * p + 1) = xZ N T L p side e o left ∧ (xL N T L p side e o left).length ≤ 12 := by
  have W2 := x2_WF W h12 h
  have hz := W.1.r
  obtain ⟨hp, hq, hs, ho, he, hge, hle⟩ := h
  have ht := W.t2 hp hq
  have l1 : (xL1 N T L p side e o left).length = L.length := shR_len ..
  unfold xN xL
  by_cases c : xC N T L p side e o left = true
  · rw [if_pos c, if_pos c]
    obtain ⟨z1, z2⟩ := drN_rz ht side (xA N L p side e) (xRt N T L p side e o left) (xZ N T L p side e o left) W2.2.2 (by omega) (x2 N T L p side e o left)
    refine ⟨W2.dr z1 (fun x hx => drL_mem hx), ?_, ?_, ?_⟩
    · exact (z1 p 0 (by omega) (by omega)).trans x2_rz.1
    · exact (z1 p 1 (by omega) (by omega)).trans x2_rz.2
    · have := List.length_filter_le (nq p side (xA N L p side e)) (xL1 N T L p side e o left)
      unfold drL
      omega
  · rw [if_neg c, if_neg c]
    exact ⟨W2, x2_rz.1, x2_rz.2, by omega⟩
end XT
