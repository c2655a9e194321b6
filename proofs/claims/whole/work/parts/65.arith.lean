/-! what lies between roots, in whole numbers -/
theorem mulr {a b A B : Int} (ha : 0 ≤ a) (hA : a ≤ A) (hb : 0 ≤ b) (hB : b ≤ B) : 0 ≤ a * b ∧ a * b ≤ A * B :=
  ⟨Int.mul_nonneg ha hb, Int.mul_le_mul hA hB hb (Int.le_trans ha hA)⟩
def cdiv (x y : Int) : Int := (x + y - 1) / y
theorem cdiv_eq {x y : Int} (hy : 0 < y) : cdiv x y = if x / y * y = x then x / y else x / y + 1 := by
  have e := Int.mul_ediv_add_emod x y
  have h0 := Int.emod_nonneg x (show y ≠ 0 by omega)
  have h1 := Int.emod_lt_of_pos x hy
  have ec : y * (x / y) = x / y * y := Int.mul_comm _ _
  unfold cdiv
  by_cases h : x / y * y = x
  · rw [if_pos h, show x + y - 1 = (y - 1) + y * (x / y) by omega, Int.add_mul_ediv_left _ _ (show y ≠ 0 by omega), Int.ediv_eq_zero_of_lt (by omega) (by omega)]
    omega
  · have e2 : y * (x / y + 1) = y * (x / y) + y := by rw [Int.mul_add, Int.mul_one]
    rw [if_neg h, show x + y - 1 = (x % y - 1) + y * (x / y + 1) by omega, Int.add_mul_ediv_left _ _ (show y ≠ 0 by omega), Int.ediv_eq_zero_of_lt (by omega) (by omega)]
    omega
theorem cdiv_r {x y : Int} (hx : 0 ≤ x) (hy : 0 < y) : 0 ≤ cdiv x y ∧ cdiv x y ≤ x := by
  have h1 := Int.ediv_nonneg hx (show 0 ≤ y by omega)
  have h2 := Int.ediv_le_self y hx
  rw [cdiv_eq hy]
  split
  · omega
  · rename_i h
    by_cases e : x / y = x
    · rw [e] at h
      by_cases y1 : y = 1
      · rw [y1] at h; omega
      · have e2 := Int.mul_ediv_add_emod x y
        have h0 := Int.emod_nonneg x (show y ≠ 0 by omega)
        rw [e] at e2
        have h3 : 2 * x ≤ y * x := Int.mul_le_mul_of_nonneg_right (by omega) hx
        have hx0 : x = 0 := by omega
        rw [hx0] at h
        omega
    · omega
theorem fdiv_r {x y : Int} (hx : 0 ≤ x) (hy : 0 < y) : 0 ≤ x / y ∧ x / y ≤ x := ⟨Int.ediv_nonneg hx (by omega), Int.ediv_le_self y hx⟩
def rdiv (x y u : Int) : Int := if u = 0 then x / y else cdiv x y
theorem rdiv_r {x y : Int} (hx : 0 ≤ x) (hy : 0 < y) (u : Int) : 0 ≤ rdiv x y u ∧ rdiv x y u ≤ x := by
  unfold rdiv
  split
  · exact fdiv_r hx hy
  · exact cdiv_r hx hy
def fst' (l a b u : Int) : Int := rdiv (l * 100000 * (b - a)) (a * b) u
def snd' (l a b u : Int) : Int := rdiv (l * (b - a)) 100000 u
/-- liquidity, and two roots -/
def Lab (l a b : Int) : Prop := (0 ≤ l ∧ l ≤ 12000000) ∧ 38554 ≤ a ∧ a ≤ b ∧ b ≤ 259374
theorem Lab.x {l a b : Int} (h : Lab l a b) : 0 ≤ l * 100000 * (b - a) ∧ l * 100000 * (b - a) ≤ 264984000000000000 := by
  have := mulr (a := l * 100000) (b := b - a) (A := 1200000000000) (B := 220820) (by have := h.1; omega) (by have := h.1; omega) (by have := h.2; omega) (by have := h.2; omega)
  omega
theorem Lab.y {l a b : Int} (h : Lab l a b) : 0 ≤ l * (b - a) ∧ l * (b - a) ≤ 2649840000000 := by
  have := mulr (a := l) (b := b - a) (A := 12000000) (B := 220820) (by have := h.1; omega) (by have := h.1; omega) (by have := h.2; omega) (by have := h.2; omega)
  omega
theorem Lab.p {l a b : Int} (h : Lab l a b) : 0 < a * b ∧ a * b ≤ 67274871876 := by
  have := mulr (a := a) (b := b) (A := 259374) (B := 259374) (by have := h.2; omega) (by have := h.2; omega) (by have := h.2; omega) (by have := h.2; omega)
  have h2 : 0 < a * b := Int.mul_pos (by have := h.2; omega) (by have := h.2; omega)
  omega
theorem R_up {x y : Int} (hx : 0 ≤ x) (hX : x ≤ 1000000000000000000) (hy : 0 < y) (hY : y ≤ 1000000000000000000) (M : MZ) : g_X12_up x y M = some (cdiv x y, M) := by
  have h := cdiv_r hx hy
  unfold g_X12_up
  rw [if_neg (by omega), w64_id (x := x + y) (by omega) (by omega), w64_id (x := x + y - 1) (by omega) (by omega), Int.tdiv_eq_ediv_of_nonneg (by omega)]
  unfold cdiv at h ⊢
  rw [w64_id (by omega) (by omega)]
theorem K_up {x y : Int} (hx : 0 ≤ x) (hX : x ≤ 1000000000000000000) (hy : 0 < y) (hY : y ≤ 1000000000000000000) (M : MZ) : g_X0_upwards x y M = some (cdiv x y, M) := by
  have h := cdiv_r hx hy
  unfold g_X0_upwards g_X0_upwards_17
  rw [if_pos hy, if_neg (by omega), w64_id (x := x + y) (by omega) (by omega), w64_id (x := x + y - 1) (by omega) (by omega), Int.tdiv_eq_ediv_of_nonneg (by omega)]
  unfold cdiv at h ⊢
  rw [w64_id (by omega) (by omega)]
theorem R_first {l a b : Int} (h : Lab l a b) (u : Int) (M : MZ) : g_X12_first l a b u M = some (fst' l a b u, M) := by
  have hx := h.x
  have hp := h.p
  have hd := fdiv_r hx.1 hp.1
  have hl := h.1
  have hab := h.2
  unfold g_X12_first g_X12_first_12 g_X12_first_36 fst' rdiv
  rw [w64_id (x := l * 100000) (by omega) (by omega), w64_id (x := b - a) (by omega) (by omega), w64_id (x := l * 100000 * (b - a)) (by omega) (by omega), w64_id (x := a * b) (by omega) (by omega)]
  by_cases hu : u = 0
  · rw [if_pos hu, if_neg (by omega), if_pos hu, Int.tdiv_eq_ediv_of_nonneg hx.1, w64_id (by omega) (by omega)]
  · rw [if_neg hu, if_neg hu, R_up hx.1 (by omega) hp.1 (by omega)]
    rfl
theorem R_second {l a b : Int} (h : Lab l a b) (u : Int) (M : MZ) : g_X12_second l a b u M = some (snd' l a b u, M) := by
  have hx := h.y
  have hd := fdiv_r (y := 100000) hx.1 (by omega)
  have hl := h.1
  have hab := h.2
  unfold g_X12_second g_X12_second_8 g_X12_second_30 snd' rdiv
  rw [w64_id (x := b - a) (by omega) (by omega), w64_id (x := l * (b - a)) (by omega) (by omega)]
  by_cases hu : u = 0
  · rw [if_pos hu, if_pos hu, Int.tdiv_eq_ediv_of_nonneg hx.1, w64_id (by omega) (by omega)]
  · rw [if_neg hu, if_neg hu, R_up hx.1 (by omega) (by omega) (by omega)]
    rfl
theorem btw_96 {x y q u : Int} (hx : 0 ≤ x ∧ x ≤ 1000000000000000000) (hy : 0 < y) (hq : q = x / y) (M : MZ) : g_X0_between_96 u x y q M = some (rdiv x y u, M) := by
  subst hq
  have hd := fdiv_r hx.1 hy
  have he := Int.ediv_mul_le x (show y ≠ 0 by omega)
  have hm := Int.mul_nonneg hd.1 (show 0 ≤ y by omega)
  unfold g_X0_between_96 g_X0_between_119 g_X0_between_121 rdiv
  rw [cdiv_eq hy, w64_id (x := x / y * y) (by omega) (by omega), w64_id (x := x / y + 1) (by omega) (by omega)]
  by_cases hu : u = 0
  · rw [if_pos hu, if_pos hu]
  · rw [if_neg hu, if_neg hu]
    split <;> rfl
theorem fst_0 (a b u : Int) (h : 0 < a * b) : fst' 0 a b u = 0 := by
  unfold fst' rdiv cdiv
  rw [Int.zero_mul, Int.zero_mul, Int.zero_ediv, Int.ediv_eq_zero_of_lt (by omega) (by omega)]
  split <;> rfl
theorem snd_0 (a b u : Int) : snd' 0 a b u = 0 := by
  unfold snd' rdiv cdiv
  rw [Int.zero_mul]
  split <;> rfl
theorem btw_28 {l a b : Int} (h : Lab l a b) (f u : Int) (M : MZ) : g_X0_between_28 f l u a b M = some (if f = 0 then snd' l a b u else fst' l a b u, M) := by
  have hx := h.x
  have hy := h.y
  have hp := h.p
  have hl := h.1
  have hab := h.2
  have hdx := fdiv_r hx.1 hp.1
  have hdy := fdiv_r (y := 100000) hy.1 (by omega)
  unfold g_X0_between_28 g_X0_between_43 g_X0_between_70 g_X0_between_87
  by_cases h0 : l ≤ 0
  · have : l = 0 := by omega
    subst this
    rw [if_pos h0, snd_0, fst_0 _ _ _ hp.1]
    split <;> rfl
  · rw [if_neg h0, if_pos (by omega), w64_id (x := b - a) (by omega) (by omega), w64_id (x := l * 100000) (by omega) (by omega), w64_id (x := l * 100000 * (b - a)) (by omega) (by omega), w64_id (x := l * (b - a)) (by omega) (by omega), w64_id (x := a * b) (by omega) (by omega)]
    by_cases hf : f = 0
    · rw [if_pos hf, if_pos hf, if_pos hf, if_neg (by omega), Int.tdiv_eq_ediv_of_nonneg hy.1, w64_id (by omega) (by omega), btw_96 (by omega) (by omega) rfl]
      rfl
    · rw [if_neg hf, if_neg hf, if_neg hf, if_neg (by omega), Int.tdiv_eq_ediv_of_nonneg hx.1, w64_id (by omega) (by omega), btw_96 (by omega) (by omega) rfl]
      rfl
theorem K_between {l a b : Int} (h : Lab l a b) (f u : Int) (M : MZ) : g_X0_between f l a b u M = some (if f = 0 then snd' l a b u else fst' l a b u, M) := by
  have hab := h.2
  unfold g_X0_between g_X0_between_13
  by_cases e : b ≤ a
  · have e2 : b = a := by omega
    subst e2
    rw [if_pos e, if_pos e]
    exact btw_28 h f u M
  · rw [if_neg e, if_neg e]
    exact btw_28 h f u M
theorem K_between' {l a b : Int} (h : Lab l a b) (f u : Int) (M : MZ) : g_X0_between f l b a u M = some (if f = 0 then snd' l a b u else fst' l a b u, M) := by
  have hab := h.2
  unfold g_X0_between g_X0_between_13
  rw [if_pos hab.2.1, if_pos hab.2.1]
  exact btw_28 h f u M
/-- what lies in so much liquidity -/
def lie (r z l lo hi k u : Int) : Int := if k = 0 then (if hi ≤ z then 0 else fst' l (if z < lo then rtz lo else r) (rtz hi) u) else (if z < lo then 0 else snd' l (rtz lo) (if hi ≤ z then rtz hi else r) u)
theorem rtz_r {t : Int} (h0 : 0 ≤ t) (h1 : t ≤ 40) : 38554 ≤ rtz t ∧ rtz t ≤ 259374 := ⟨rt_lo _ (by omega), rt_hi _ (by omega)⟩
theorem rtz_le {a b : Int} (h0 : 0 ≤ a) (h : a ≤ b) (h1 : b ≤ 40) : rtz a ≤ rtz b := rt_le (by omega) (by omega)
theorem rtz_lt {a b : Int} (h0 : 0 ≤ a) (h : a < b) (h1 : b ≤ 40) : rtz a < rtz b := rt_mono (by omega) (by omega)
def Rzz (r z : Int) : Prop := (0 ≤ z ∧ z < 40) ∧ rtz z ≤ r ∧ r ≤ rtz (z + 1)
theorem K_liesIn {h p : Nat} {r z l lo hi : Int} {M : MZ} (kh : kd h = (6, 8)) (kp : kd p = (3, 12)) (hr : zI M p 5 = r) (hz : zI M p 6 = z) (h2 : zI M h 2 = lo) (h3 : zI M h 3 = hi) (hRz : Rzz r z) (hl : 0 ≤ l ∧ l ≤ 12000000) (ht : 0 ≤ lo ∧ lo < hi ∧ hi ≤ 40) (k u : Int) : g_X7_liesIn h p l k u M = some (lie r z l lo hi k u, M) := by
  have a1 := rtz_r (t := lo) (by omega) (by omega)
  have a2 := rtz_r (t := hi) (by omega) (by omega)
  have a3 := rtz_lt (a := lo) (b := hi) (by omega) (by omega) (by omega)
  have a4 := rtz_r (t := z) (by have := hRz.1; omega) (by have := hRz.1; omega)
  have a5 := rtz_r (t := z + 1) (by have := hRz.1; omega) (by have := hRz.1; omega)
  obtain ⟨hz0, hr1, hr2⟩ := hRz
  unfold g_X7_liesIn g_X7_liesIn_43 g_X7_liesIn_102 lie
  have k1 := fun M => K_rootAt (p := lo) (by omega) (by omega) M
  have k2 := fun M => K_rootAt (p := hi) (by omega) (by omega) M
  simp only [if_pos kp, if_pos kh, hr, hz, h2, h3, k1, k2, bindS]
  by_cases hk : k = 0
  · rw [if_pos hk, if_pos hk]
    by_cases c1 : z < hi
    · rw [if_pos c1, if_neg (show ¬ hi ≤ z by omega)]
      have b1 := rtz_le (a := z + 1) (b := hi) (by omega) (by omega) (by omega)
      by_cases c2 : lo ≤ z
      · rw [if_pos c2, if_neg (show ¬ z < lo by omega), show zroots hi.toNat = rtz hi from rfl, K_between ⟨hl, by omega⟩]
        rfl
      · rw [if_neg c2, if_pos (show z < lo by omega), show zroots hi.toNat = rtz hi from rfl, show zroots lo.toNat = rtz lo from rfl, K_between ⟨hl, by omega⟩]
        rfl
    · rw [if_neg c1, if_pos (show hi ≤ z by omega)]
  · rw [if_neg hk, if_neg hk]
    by_cases c1 : lo ≤ z
    · rw [if_pos c1, if_neg (show ¬ z < lo by omega)]
      have b1 := rtz_le (a := lo) (b := z) (by omega) (by omega) (by omega)
      by_cases c2 : z < hi
      · rw [if_pos c2, if_neg (show ¬ hi ≤ z by omega), show zroots lo.toNat = rtz lo from rfl, K_between ⟨hl, by omega⟩]
        rfl
      · rw [if_neg c2, if_pos (show hi ≤ z by omega), show zroots hi.toNat = rtz hi from rfl, show zroots lo.toNat = rtz lo from rfl, K_between ⟨hl, by omega⟩]
        rfl
    · rw [if_neg c1, if_pos (show z < lo by omega)]
theorem R_liesIn {M : MZ} {N T : Nat → Int} {L : List (Nat → Int)} {th pe po : Int} (R : RepR M N T L th pe po) (K : KON M) {p : Nat} (hp : p < 5) {l lo hi : Int} (hRz : Rzz (N (22 + 23 * p)) (N (22 + 23 * p + 1))) (hl : 0 ≤ l ∧ l ≤ 12000000) (ht : 0 ≤ lo ∧ lo < hi ∧ hi ≤ 40) {k : Int} (hk : k = 0 ∨ k = 1) (u : Int) : g_X12_liesIn p lo hi l k u M = some (lie (N (22 + 23 * p)) (N (22 + 23 * p + 1)) l lo hi k u, M) := by
  have e0 : g_X12_ofPool p 0 M = some (N (22 + 23 * p), M) := R_pool R hp (by omega) (by omega)
  have ez := R_zone R hp hRz.1
  generalize N (22 + 23 * p) = r at *
  generalize N (22 + 23 * p + 1) = z at *
  have a1 := rtz_r (t := lo) (by omega) (by omega)
  have a2 := rtz_r (t := hi) (by omega) (by omega)
  have a3 := rtz_lt (a := lo) (b := hi) (by omega) (by omega) (by omega)
  have a4 := rtz_r (t := z) (by have := hRz.1; omega) (by have := hRz.1; omega)
  have a5 := rtz_r (t := z + 1) (by have := hRz.1; omega) (by have := hRz.1; omega)
  obtain ⟨hz0, hr1, hr2⟩ := hRz
  have el : zL M 21 lo.toNat = rtz lo := K.1 _ (by omega)
  have eh : zL M 21 hi.toNat = rtz hi := K.1 _ (by omega)
  unfold g_X12_liesIn g_X12_liesIn_25 g_X12_liesIn_40 g_X12_liesIn_59 g_X12_liesIn_74 g_X12_liesIn_102 g_X12_liesIn_124 lie
  simp only [ez, e0, bindS]
  rw [if_pos (show 0 ≤ lo ∧ lo < ((41 : Nat) : Int) by omega), if_pos (show 0 ≤ hi ∧ hi < ((41 : Nat) : Int) by omega), el, eh]
  rcases hk with rfl | rfl
  · by_cases c1 : z < lo
    · have hL : Lab l (rtz lo) (rtz hi) := ⟨hl, by omega⟩
      simp only [if_pos c1, if_neg (show ¬ hi ≤ z by omega), if_pos (show z < hi by omega), R_first hL, bindS, if_true]
    · by_cases c2 : hi ≤ z
      · simp only [if_neg c1, if_pos c2, if_neg (show ¬ z < hi by omega), if_true]
      · have b1 := rtz_le (a := z + 1) (b := hi) (by omega) (by omega) (by omega)
        have hL : Lab l r (rtz hi) := ⟨hl, by omega⟩
        simp only [if_neg c1, if_neg c2, if_pos (show z < hi by omega), R_first hL, bindS, if_true]
        rw [if_neg (by omega), if_pos (by omega)]
  · by_cases c1 : z < lo
    · simp only [if_pos c1, if_neg (show ¬ lo ≤ z by omega)]
      rfl
    · have b1 := rtz_le (a := lo) (b := z) (by omega) (by omega) (by omega)
      by_cases c2 : hi ≤ z
      · have hL : Lab l (rtz lo) (rtz hi) := ⟨hl, by omega⟩
        simp only [if_neg c1, if_pos c2, if_pos (show lo ≤ z by omega), R_second hL, bindS]
        rfl
      · have hL : Lab l (rtz lo) r := ⟨hl, by omega⟩
        simp only [if_neg c1, if_neg c2, if_pos (show lo ≤ z by omega), R_second hL, bindS]
        rfl
