/-! one step of a swap, in whole numbers: o 0 in, 1 out; a: the root of the aim -/
theorem cdiv_le {x y t : Int} (hy : 0 < y) : cdiv x y ≤ t ↔ x ≤ t * y := by
  unfold cdiv
  have h : (x + y - 1) / y < t + 1 ↔ x + y - 1 < (t + 1) * y := Int.ediv_lt_iff_lt_mul hy
  rw [Int.add_mul] at h
  omega
theorem rdiv_b {x y : Int} (hx : 0 ≤ x) (hX : x ≤ 264984000000000000) (hy : 1000000000 ≤ y) (u : Int) : rdiv x y u ≤ 264984001 := by
  have h1 : x / y < 264984001 := by
    rw [Int.ediv_lt_iff_lt_mul (by omega)]
    omega
  unfold rdiv
  split
  · omega
  · rw [cdiv_eq (by omega)]
    split <;> omega
theorem fst_b {l a b : Int} (h : Lab l a b) (u : Int) : 0 ≤ fst' l a b u ∧ fst' l a b u ≤ 264984001 := by
  have x := h.x
  have hy : 1000000000 ≤ a * b := by
    have := Int.mul_le_mul (a := 38554) (b := 38554) (c := a) (d := b) (by have := h.2; omega) (by have := h.2; omega) (by omega) (by have := h.2; omega)
    omega
  exact ⟨(rdiv_r x.1 h.p.1 u).1, rdiv_b x.1 x.2 hy u⟩
theorem snd_b {l a b : Int} (h : Lab l a b) (u : Int) : 0 ≤ snd' l a b u ∧ snd' l a b u ≤ 264984001 := by
  have y := h.y
  refine ⟨(rdiv_r y.1 (by omega) u).1, ?_⟩
  have h1 : l * (b - a) / 100000 < 26498401 := by
    rw [Int.ediv_lt_iff_lt_mul (by omega)]
    omega
  unfold snd' rdiv
  split
  · omega
  · rw [cdiv_eq (by omega)]
    split <;> omega
def sMost (o side l r a : Int) : Int := if o = 0 then (if side = 0 then fst' l a r 1 else snd' l r a 1) else (if side = 0 then snd' l a r 0 else fst' l r a 0)
def sN (o f left : Int) : Int := if o = 0 then left * (1000 - f) / 1000 else left
def sRe (o side l r a f left : Int) : Bool := decide (sMost o side l r a ≤ sN o f left)
def sRt (o side l r a f left : Int) : Int := if sRe o side l r a f left then a else if o = 0 then (if side = 0 then cdiv (l * 100000 * r) (l * 100000 + sN o f left * r) else r + sN o f left * 100000 / l) else (if side = 0 then r - cdiv (sN o f left * 100000) l else cdiv (l * 100000 * r) (l * 100000 - sN o f left * r))
def sGo (o side l r a f left : Int) : Int := if o = 0 then (if side = 0 then snd' l (sRt o side l r a f left) r 0 else fst' l r (sRt o side l r a f left) 0) else (if sRe o side l r a f left then sMost o side l r a else sN o f left)
def sCo (o side l r a f left : Int) : Int := if o = 0 then (if sRe o side l r a f left then sMost o side l r a else sN o f left) else (if side = 0 then fst' l (sRt o side l r a f left) r 1 else snd' l r (sRt o side l r a f left) 1)
def sFe (o side l r a f left : Int) : Int := if o = 0 ∧ ¬ sRe o side l r a f left then left - sN o f left else cdiv (sCo o side l r a f left * f) (1000 - f)
def sLe (o side l r a f left : Int) : Int := if o = 0 then left - (sCo o side l r a f left + sFe o side l r a f left) else left - sGo o side l r a f left
/-- what a step takes as given -/
def Pst (o side l r a f left : Int) : Prop := (o = 0 ∨ o = 1) ∧ (side = 0 ∨ side = 1) ∧ (0 ≤ l ∧ l ≤ 12000000) ∧ (38554 ≤ r ∧ r ≤ 259374) ∧ (38554 ≤ a ∧ a ≤ 259374) ∧ (side = 0 → a ≤ r) ∧ (side = 1 → r ≤ a) ∧ (0 ≤ f ∧ f ≤ 99) ∧ (0 < left ∧ left ≤ 10000000000)
theorem sN_r {o side l r a f left : Int} (h : Pst o side l r a f left) : 0 ≤ sN o f left ∧ sN o f left ≤ left := by
  obtain ⟨ho, hs, hl, hr, ha, h0, h1, hf, hle⟩ := h
  unfold sN
  split
  · have m := mulr (a := left) (b := 1000 - f) (A := left) (B := 1000) (by omega) (Int.le_refl _) (by omega) (by omega)
    refine ⟨Int.ediv_nonneg m.1 (by omega), ?_⟩
    have : left * (1000 - f) / 1000 < left + 1 := by
      rw [Int.ediv_lt_iff_lt_mul (by omega)]
      omega
    omega
  · omega
theorem sMost_r {o side l r a f left : Int} (h : Pst o side l r a f left) : 0 ≤ sMost o side l r a ∧ sMost o side l r a ≤ 264984001 := by
  obtain ⟨ho, hs, hl, hr, ha, h0, h1, hf, hle⟩ := h
  unfold sMost
  rcases hs with rfl | rfl
  · have hL : Lab l a r := ⟨hl, by omega, h0 rfl, by omega⟩
    have p1 := fst_b hL 1
    have p2 := snd_b hL 0
    split <;> split <;> omega
  · have hL : Lab l r a := ⟨hl, by omega, h1 rfl, by omega⟩
    have p1 := fst_b hL 0
    have p2 := snd_b hL 1
    split <;> split <;> omega
theorem sRe_l {o side l r a f left : Int} (h : Pst o side l r a f left) (hn : sRe o side l r a f left = false) : 1 ≤ l ∧ sN o f left < sMost o side l r a := by
  have h1 : ¬ sMost o side l r a ≤ sN o f left := of_decide_eq_false hn
  have h2 := sN_r h
  refine ⟨?_, by omega⟩
  by_cases c : l < 1
  · have hl : l = 0 := by have := h.2.2.1; omega
    subst hl
    exfalso
    apply h1
    have : sMost o side 0 r a = 0 := by
      obtain ⟨ho, hs, hl, hr, ha, h0, h1, hf, hle⟩ := h
      unfold sMost
      have p1 : 0 < a * r := Int.mul_pos (by omega) (by omega)
      have p2 : 0 < r * a := Int.mul_pos (by omega) (by omega)
      rw [fst_0 _ _ _ p1, fst_0 _ _ _ p2, snd_0, snd_0]
      split <;> split <;> rfl
    omega
  · omega
/-- the new root lies between the old one and the aim's -/
theorem sRt_r {o side l r a f left : Int} (h : Pst o side l r a f left) : (side = 0 → a ≤ sRt o side l r a f left ∧ sRt o side l r a f left ≤ r) ∧ (side = 1 → r ≤ sRt o side l r a f left ∧ sRt o side l r a f left ≤ a) := by
  unfold sRt
  by_cases hre : sRe o side l r a f left = true
  · rw [if_pos hre]
    obtain ⟨ho, hs, hl, hr, ha, h0, h1, hf, hle⟩ := h
    exact ⟨fun q => ⟨Int.le_refl _, h0 q⟩, fun q => ⟨h1 q, Int.le_refl _⟩⟩
  · rw [if_neg hre]
    obtain ⟨l1, hlt⟩ := sRe_l h (by simpa using hre)
    have hn := sN_r h
    generalize sN o f left = n at *
    obtain ⟨ho, hs, hl, hr, ha, h0, h1, hf, hle⟩ := h
    unfold sMost at hlt
    rcases hs with rfl | rfl
    · have hL : Lab l a r := ⟨hl, by omega, h0 rfl, by omega⟩
      refine ⟨fun _ => ?_, fun q => by omega⟩
      rcases ho with rfl | rfl
      · simp only [if_true] at hlt ⊢
        have k : ¬ cdiv (l * 100000 * (r - a)) (a * r) ≤ n := by
          have e : fst' l a r 1 = cdiv (l * 100000 * (r - a)) (a * r) := rfl
          rw [← e]; omega
        rw [cdiv_le hL.p.1] at k
        have hp : 0 < l * 100000 + n * r := by
          have := Int.mul_nonneg hn.1 (show 0 ≤ r by omega)
          omega
        constructor
        · have : ¬ cdiv (l * 100000 * r) (l * 100000 + n * r) ≤ a - 1 := by
            rw [cdiv_le hp]
            have := Int.mul_nonneg hn.1 (show 0 ≤ r by omega)
            grind
          omega
        · rw [cdiv_le hp]
          have := Int.mul_nonneg (Int.mul_nonneg hn.1 (show 0 ≤ r by omega)) (show 0 ≤ r by omega)
          grind
      · simp only [Int.reduceEq, if_true, if_false] at hlt ⊢
        have k : n + 1 ≤ l * (r - a) / 100000 := by
          have e : snd' l a r 0 = l * (r - a) / 100000 := rfl
          rw [← e]; omega
        rw [Int.le_ediv_iff_mul_le (by omega)] at k
        have c1 : cdiv (n * 100000) l ≤ r - a := by
          rw [cdiv_le (by omega)]
          grind
        have c2 := cdiv_r (x := n * 100000) (y := l) (by omega) (by omega)
        omega
    · have hL : Lab l r a := ⟨hl, by omega, h1 rfl, by omega⟩
      refine ⟨fun q => by omega, fun _ => ?_⟩
      rcases ho with rfl | rfl
      · simp only [Int.reduceEq, if_true, if_false] at hlt ⊢
        have k : ¬ cdiv (l * (a - r)) 100000 ≤ n := by
          have e : snd' l r a 1 = cdiv (l * (a - r)) 100000 := rfl
          rw [← e]; omega
        rw [cdiv_le (by omega)] at k
        have c1 : n * 100000 / l < a - r := by
          rw [Int.ediv_lt_iff_lt_mul (by omega)]
          grind
        have c2 := Int.ediv_nonneg (show 0 ≤ n * 100000 by omega) (show 0 ≤ l by omega)
        omega
      · simp only [Int.reduceEq, if_true, if_false] at hlt ⊢
        have k : n + 1 ≤ l * 100000 * (a - r) / (r * a) := by
          have e : fst' l r a 0 = l * 100000 * (a - r) / (r * a) := rfl
          rw [← e]; omega
        rw [Int.le_ediv_iff_mul_le hL.p.1] at k
        have m1 := Int.mul_nonneg hn.1 (show 0 ≤ r by omega)
        have hp : 0 < l * 100000 - n * r := by
          have q1 : n * r * a < l * 100000 * a := by
            have := hL.p.1
            have m2 := Int.mul_nonneg (show 0 ≤ l * 100000 by omega) (show 0 ≤ r by omega)
            grind
          have := Int.lt_of_mul_lt_mul_right q1 (by omega)
          omega
        constructor
        · have : ¬ cdiv (l * 100000 * r) (l * 100000 - n * r) ≤ r - 1 := by
            rw [cdiv_le hp]
            have m3 := Int.mul_nonneg m1 (show 0 ≤ r - 1 by omega)
            grind
          omega
        · rw [cdiv_le hp]
          have := hL.p.1
          grind
/-- what is wanted, with its fee, is no more than so much -/
theorem whole_le {w f left : Int} (hf : 0 ≤ f ∧ f ≤ 99) : w + cdiv (w * f) (1000 - f) ≤ left ↔ w ≤ left * (1000 - f) / 1000 := by
  rw [Int.le_ediv_iff_mul_le (by omega)]
  have h : cdiv (w * f) (1000 - f) ≤ left - w ↔ w * f ≤ (left - w) * (1000 - f) := cdiv_le (by omega)
  have e : (left - w) * (1000 - f) = left * (1000 - f) - w * 1000 + w * f := by grind
  rw [e] at h
  omega
theorem sGo_nn {o side l r a f left : Int} (h : Pst o side l r a f left) : 0 ≤ sGo o side l r a f left ∧ sGo o side l r a f left ≤ 10000000000 := by
  have hm := sMost_r h
  have hn := sN_r h
  have hr := sRt_r h
  have h' := h
  obtain ⟨ho, hs, hl, hr', ha, h0, h1, hf, hle⟩ := h'
  unfold sGo
  generalize sRt o side l r a f left = r' at *
  split
  · split
    · rename_i c
      have := hr.1 c
      have hL : Lab l r' r := ⟨hl, by omega, by omega, by omega⟩
      have p2 := snd_b hL 0
      omega
    · have := hr.2 (by omega)
      have hL : Lab l r r' := ⟨hl, by omega, by omega, by omega⟩
      have p1 := fst_b hL 0
      omega
  · split <;> omega
theorem sCo_nn {o side l r a f left : Int} (h : Pst o side l r a f left) : 0 ≤ sCo o side l r a f left ∧ sCo o side l r a f left ≤ 10000000000 := by
  have hm := sMost_r h
  have hn := sN_r h
  have hr := sRt_r h
  have h' := h
  obtain ⟨ho, hs, hl, hr', ha, h0, h1, hf, hle⟩ := h'
  unfold sCo
  generalize sRt o side l r a f left = r' at *
  split
  · split <;> omega
  · split
    · rename_i c
      have := hr.1 c
      have hL : Lab l r' r := ⟨hl, by omega, by omega, by omega⟩
      have p1 := fst_b hL 1
      omega
    · have := hr.2 (by omega)
      have hL : Lab l r r' := ⟨hl, by omega, by omega, by omega⟩
      have p2 := snd_b hL 1
      omega
theorem sFe_nn {o side l r a f left : Int} (h : Pst o side l r a f left) : 0 ≤ sFe o side l r a f left ∧ sFe o side l r a f left ≤ 10000000000 := by
  have hc := sCo_nn h
  have hn := sN_r h
  have hf := h.2.2.2.2.2.2.2.1
  have hle := h.2.2.2.2.2.2.2.2
  unfold sFe
  generalize sCo o side l r a f left = co at *
  split
  · omega
  · have m := mulr (a := co) (b := f) (A := co) (B := 99) hc.1 (Int.le_refl _) hf.1 hf.2
    have p := cdiv_r (x := co * f) (y := 1000 - f) m.1 (by omega)
    refine ⟨p.1, ?_⟩
    have : cdiv (co * f) (1000 - f) ≤ co := by
      rw [cdiv_le (by omega)]
      have m2 := Int.mul_le_mul_of_nonneg_left (show f ≤ 1000 - f by omega) hc.1
      exact m2
    omega
theorem sLe_r {o side l r a f left : Int} (h : Pst o side l r a f left) : 0 ≤ sLe o side l r a f left ∧ sLe o side l r a f left ≤ left ∧ (sRe o side l r a f left = false → sLe o side l r a f left = 0) := by
  have hc := sCo_nn h
  have hg := sGo_nn h
  have hfe := sFe_nn h
  have hn := sN_r h
  have hf := h.2.2.2.2.2.2.2.1
  have ho := h.1
  unfold sLe
  rcases ho with rfl | rfl
  · rw [if_pos rfl]
    by_cases hre : sRe 0 side l r a f left = true
    · have h1 : sMost 0 side l r a ≤ sN 0 f left := of_decide_eq_true hre
      have eC : sCo 0 side l r a f left = sMost 0 side l r a := by unfold sCo; rw [if_pos rfl, if_pos hre]
      have eF : sFe 0 side l r a f left = cdiv (sMost 0 side l r a * f) (1000 - f) := by unfold sFe; rw [if_neg (fun q => q.2 hre), eC]
      have := (whole_le (w := sMost 0 side l r a) (left := left) hf).mpr h1
      rw [eC] at hc
      rw [eF] at hfe
      rw [eC, eF]
      exact ⟨by omega, by omega, fun q => by rw [hre] at q; cases q⟩
    · have eC : sCo 0 side l r a f left = sN 0 f left := by unfold sCo; rw [if_pos rfl, if_neg hre]
      have eF : sFe 0 side l r a f left = left - sN 0 f left := by unfold sFe; rw [if_pos ⟨rfl, hre⟩]
      rw [eC, eF]
      have := h.2.2.2.2.2.2.2.2
      exact ⟨by omega, by omega, fun _ => by omega⟩
  · rw [if_neg (by omega)]
    by_cases hre : sRe 1 side l r a f left = true
    · have h1 : sMost 1 side l r a ≤ sN 1 f left := of_decide_eq_true hre
      have eG : sGo 1 side l r a f left = sMost 1 side l r a := by unfold sGo; rw [if_neg (by omega), if_pos hre]
      have eN : sN 1 f left = left := if_neg (by omega)
      rw [eG] at hg
      rw [eG]
      rw [eN] at h1
      exact ⟨by omega, by omega, fun q => by rw [hre] at q; cases q⟩
    · have eG : sGo 1 side l r a f left = sN 1 f left := by unfold sGo; rw [if_neg (by omega), if_neg hre]
      have eN : sN 1 f left = left := if_neg (by omega)
      rw [eG, eN]
      have := h.2.2.2.2.2.2.2.2
      exact ⟨by omega, by omega, fun _ => by omega⟩
