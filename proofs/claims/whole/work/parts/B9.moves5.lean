/-! what goes out when pouring, what comes in when draining: rounded for the pool -/
theorem go_mv0 {side l r a f left : Int} (h : Pst 0 side l r a f left) : ((sGo 0 side l r a f left : Int) : Rat) ≤ -((l : Rat) * mvX (1 - xk side) r (sRt 0 side l r a f left)) := by
  have hrt := sRt_r h
  obtain ⟨ho, hs, hl, hr, ha, h0, h1, hf, hle⟩ := h
  have e : sGo 0 side l r a f left = if side = 0 then snd' l (sRt 0 side l r a f left) r 0 else fst' l r (sRt 0 side l r a f left) 0 := by
    unfold sGo; rw [if_pos rfl]
  rw [e]
  generalize sRt 0 side l r a f left = r' at *
  rcases hs with rfl | rfl
  · have q := snd_lo (l := l) (a := r') (b := r)
    rw [if_pos rfl]
    show _ ≤ -((l : Rat) * (((r' : Rat) - (r : Rat)) / 100000))
    grind
  · have q := fst_lo (l := l) (a := r) (b := r') ⟨hl, by omega, (hrt.2 rfl).1, by have := (hrt.2 rfl).2; omega⟩
    rw [if_neg (by omega)]
    show _ ≤ -((l : Rat) * (rho r' - rho r))
    grind
theorem co_mv1 {side l r a f left : Int} (h : Pst 1 side l r a f left) : (l : Rat) * mvX (xk side) r (sRt 1 side l r a f left) ≤ ((sCo 1 side l r a f left : Int) : Rat) := by
  have hrt := sRt_r h
  obtain ⟨ho, hs, hl, hr, ha, h0, h1, hf, hle⟩ := h
  have e : sCo 1 side l r a f left = if side = 0 then fst' l (sRt 1 side l r a f left) r 1 else snd' l r (sRt 1 side l r a f left) 1 := by
    unfold sCo; rw [if_neg (by omega)]
  rw [e]
  generalize sRt 1 side l r a f left = r' at *
  rcases hs with rfl | rfl
  · have q := fst_hi (l := l) (a := r') (b := r) ⟨hl, by have := (hrt.1 rfl).1; omega, (hrt.1 rfl).2, by omega⟩
    rw [if_pos rfl]
    show (l : Rat) * (rho r' - rho r) ≤ _
    grind
  · have q := snd_hi (l := l) (a := r) (b := r')
    rw [if_neg (by omega)]
    show (l : Rat) * (((r' : Rat) - (r : Rat)) / 100000) ≤ _
    grind
