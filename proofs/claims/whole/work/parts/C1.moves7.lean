/-! what comes in when pouring -/
theorem co_mv0 {side l r a f left : Int} (h : Pst 0 side l r a f left) : (l : Rat) * mvX (xk side) r (sRt 0 side l r a f left) ≤ ((sCo 0 side l r a f left : Int) : Rat) := by
  have hrt := sRt_r h
  have hP := h
  have hn := sN_r h
  obtain ⟨ho, hs, hl, hr, ha, h0, h1, hf, hle⟩ := h
  cases hre : sRe 0 side l r a f left
  · obtain ⟨hl1, hlt⟩ := sRe_l hP hre
    have e : sCo 0 side l r a f left = sN 0 f left := by unfold sCo; rw [if_pos rfl, hre, if_neg (by decide)]
    have eR : sRt 0 side l r a f left = (if side = 0 then cdiv (l * 100000 * r) (l * 100000 + sN 0 f left * r) else r + sN 0 f left * 100000 / l) := by
      unfold sRt
      rw [hre, if_neg (by decide), if_pos rfl]
    rw [e]
    generalize sN 0 f left = n at *
    rcases hs with rfl | rfl
    · rw [if_pos rfl] at eR
      have hr2 := hrt.1 rfl
      have m := Int.mul_nonneg hn.1 (show 0 ≤ r by omega)
      have q : l * 100000 * r ≤ sRt 0 0 l r a f left * (l * 100000 + n * r) := by
        rw [eR]
        exact (cdiv_le (by omega)).mp (Int.le_refl _)
      generalize sRt 0 0 l r a f left = r' at *
      have q2 : l * 100000 * (r - r') ≤ n * (r' * r) := by grind
      have q3 := fst_q (l := l) (a := r') (b := r) ⟨hl, by omega, hr2.2, by omega⟩
      have hp : (0 : Rat) < ((r' * r : Int) : Rat) := rcast_lt (Int.mul_pos (by omega) (by omega))
      have q4 := rcast_le q2
      rw [q3, Rat.intCast_mul n] at q4
      exact Rat.le_of_mul_le_mul_right q4 hp
    · rw [if_neg (by omega)] at eR
      rw [eR]
      have q := fdiv_q (x := n * 100000) (y := l) (by omega)
      show (l : Rat) * ((((r + n * 100000 / l : Int) : Rat) - (r : Rat)) / 100000) ≤ _
      rw [Rat.intCast_add]
      rw [Rat.intCast_mul n] at q
      generalize ((n * 100000 / l : Int) : Rat) = c at *
      have : ((100000 : Int) : Rat) = 100000 := rfl
      grind
  · have er : sRt 0 side l r a f left = a := by unfold sRt; rw [if_pos hre]
    have e : sCo 0 side l r a f left = sMost 0 side l r a := by unfold sCo; rw [if_pos rfl, if_pos hre]
    rw [e, er]
    rcases hs with rfl | rfl
    · have q := fst_hi (l := l) (a := a) (b := r) ⟨hl, by omega, h0 rfl, by omega⟩
      have e2 : sMost 0 0 l r a = fst' l a r 1 := rfl
      rw [e2]
      show (l : Rat) * (rho a - rho r) ≤ _
      grind
    · have q := snd_hi (l := l) (a := r) (b := a)
      have e2 : sMost 0 1 l r a = snd' l r a 1 := rfl
      rw [e2]
      show (l : Rat) * (((a : Rat) - (r : Rat)) / 100000) ≤ _
      grind
