/-! what goes out when draining -/
theorem go_mv1 {side l r a f left : Int} (h : Pst 1 side l r a f left) : ((sGo 1 side l r a f left : Int) : Rat) ≤ -((l : Rat) * mvX (1 - xk side) r (sRt 1 side l r a f left)) := by
  have hrt := sRt_r h
  have hP := h
  obtain ⟨ho, hs, hl, hr, ha, h0, h1, hf, hle⟩ := h
  have eN : sN 1 f left = left := if_neg (by omega)
  cases hre : sRe 1 side l r a f left
  · obtain ⟨hl1, hlt⟩ := sRe_l hP hre
    have e : sGo 1 side l r a f left = left := by unfold sGo; rw [if_neg (by omega), hre, if_neg (by decide), eN]
    have eR : sRt 1 side l r a f left = (if side = 0 then r - cdiv (left * 100000) l else cdiv (l * 100000 * r) (l * 100000 - left * r)) := by
      unfold sRt
      rw [hre, if_neg (by decide), if_neg (by omega), eN]
    rw [e]
    rcases hs with rfl | rfl
    · rw [if_pos rfl] at eR
      rw [eR]
      have q := cdiv_q (x := left * 100000) (y := l) (by omega)
      show _ ≤ -((l : Rat) * ((((r - cdiv (left * 100000) l : Int) : Rat) - (r : Rat)) / 100000))
      rw [Rat.intCast_sub]
      rw [Rat.intCast_mul] at q
      generalize ((cdiv (left * 100000) l : Int) : Rat) = c at *
      have : ((100000 : Int) : Rat) = 100000 := rfl
      grind
    · rw [if_neg (by omega)] at eR
      rw [eN] at hlt
      have hL : Lab l r a := ⟨hl, by omega, h1 rfl, by omega⟩
      have hpos : 0 < l * 100000 - left * r := by
        have k : left + 1 ≤ l * 100000 * (a - r) / (r * a) := by
          have e : sMost 1 1 l r a = l * 100000 * (a - r) / (r * a) := rfl
          rw [← e]; omega
        rw [Int.le_ediv_iff_mul_le hL.p.1] at k
        have q1 : left * r * a < l * 100000 * a := by
          have := hL.p.1
          have m3 := Int.mul_nonneg (show 0 ≤ l * 100000 by omega) (show 0 ≤ r by omega)
          grind
        have := Int.lt_of_mul_lt_mul_right q1 (by omega)
        omega
      have hr2 := hrt.2 rfl
      have q : l * 100000 * r ≤ sRt 1 1 l r a f left * (l * 100000 - left * r) := by
        rw [eR]
        exact (cdiv_le hpos).mp (Int.le_refl _)
      generalize sRt 1 1 l r a f left = r' at *
      have q2 : left * (r * r') ≤ l * 100000 * (r' - r) := by grind
      have q3 := fst_q (l := l) (a := r) (b := r') ⟨hl, by omega, hr2.1, by omega⟩
      have hp : (0 : Rat) < ((r * r' : Int) : Rat) := rcast_lt (Int.mul_pos (by omega) (by omega))
      have q4 := rcast_le q2
      rw [q3, Rat.intCast_mul left] at q4
      have q5 := Rat.le_of_mul_le_mul_right q4 hp
      show _ ≤ -((l : Rat) * (rho r' - rho r))
      grind
  · have er : sRt 1 side l r a f left = a := by unfold sRt; rw [if_pos hre]
    have e : sGo 1 side l r a f left = sMost 1 side l r a := by unfold sGo; rw [if_neg (by omega), if_pos hre]
    rw [e, er]
    rcases hs with rfl | rfl
    · have q := snd_lo (l := l) (a := a) (b := r)
      have e2 : sMost 1 0 l r a = snd' l a r 0 := rfl
      rw [e2]
      show _ ≤ -((l : Rat) * (((a : Rat) - (r : Rat)) / 100000))
      grind
    · have q := fst_lo (l := l) (a := r) (b := a) ⟨hl, by omega, h1 rfl, by omega⟩
      have e2 : sMost 1 1 l r a = fst' l r a 0 := rfl
      rw [e2]
      show _ ≤ -((l : Rat) * (rho a - rho r))
      grind
