/-! a step of a swap is such a move -/
section MV
variable {N T : Nat → Int} {L : List (Nat → Int)} {th pe po : Int}
theorem x_Mv (W : WF N T L th pe po) (h12 : L.length ≤ 12) {p : Nat} {side e o left : Int} (h : Pgo N T L p po side e o left) {s : Nat → Int} (hs : s ∈ L) (hsp : s 1 = p) : Mv side (xA N L p side e) (xr N p) (xz N p) (xRt N T L p side e o left) (xZ N T L p side e o left) (s 2) (s 3) ∧ s 2 < s 3 := by
  obtain ⟨hP, hA, hA0, hA1, hrz⟩ := h.pst W h12
  have hrt := sRt_r hP
  have h3 := h.2.2.1
  have hok := (W.2.2 s hs).2.2.1
  have er : xRe N T L p side e o left = true → xRt N T L p side e o left = rtz (xA N L p side e) := fun q => by
    unfold xRt sRt
    have : sRe o side (xl N L p) (xr N p) (rtz (xA N L p side e)) (T (5 * p + 2)) left = true := q
    rw [if_pos this]
  have nb : xRe N T L p side e o left = false → xZ N T L p side e o left = zBe side (xz N p) (xA N L p side e) (xRt N T L p side e o left) := fun q => by
    unfold xZ
    rw [q, if_neg (by decide)]
  have yb : xRe N T L p side e o left = true → xZ N T L p side e o left = if xA N L p side e = e then (if side = 0 then e else e - 1) else (if side = 0 then xA N L p side e - 1 else xA N L p side e) := fun q => by
    unfold xZ
    rw [q, if_pos rfl]
  obtain ⟨c1, c2, c3⟩ := zBe_rz (r' := xRt N T L p side e o left) h3 hrz hA (fun q => ⟨(hA0 q).2, hrt.1 q⟩) (fun q => ⟨(hA1 q).1, hrt.2 q⟩)
  refine ⟨⟨fun q => ?_, fun q => ?_⟩, hok.2.1⟩
  · subst q
    obtain ⟨n1, n2⟩ := aim_no0 (p : Int) (xz N p) L e
    obtain ⟨n3, n4⟩ := n2 s hs hsp
    have a0 := hA0 rfl
    have b0 := c2 rfl
    cases hre : xRe N T L p 0 e o left
    · rw [nb hre]
      exact ⟨a0.2, by omega, by omega, fun w => by omega, n3, n4⟩
    · have y := yb hre
      rw [er hre]
      rw [if_pos rfl, if_pos rfl] at y
      split at y
      · exact ⟨a0.2, by omega, by omega, fun w => rfl, n3, n4⟩
      · exact ⟨a0.2, by omega, by omega, fun w => rfl, n3, n4⟩
  · subst q
    obtain ⟨n1, n2⟩ := aim_no1 (p : Int) (xz N p) L e
    obtain ⟨n3, n4⟩ := n2 s hs hsp
    have a0 := hA1 rfl
    have b0 := c3 rfl
    cases hre : xRe N T L p 1 e o left
    · rw [nb hre]
      exact ⟨a0.1, by omega, by omega, fun w => by omega, n3, n4⟩
    · have y := yb hre
      rw [er hre]
      rw [if_neg (show ¬ (1 : Int) = 0 by omega), if_neg (show ¬ (1 : Int) = 0 by omega)] at y
      split at y
      · exact ⟨a0.1, by omega, by omega, fun w => rfl, n3, n4⟩
      · exact ⟨a0.1, by omega, by omega, fun w => rfl, n3, n4⟩
end MV
