/-! money: no fraction is ever given away -/
theorem sumR_nn {f : (Nat → Int) → Rat} {L : List (Nat → Int)} (h : ∀ s, s ∈ L → 0 ≤ f s) : 0 ≤ sumR f L := by
  induction L with
  | nil => unfold sumR; exact Rat.le_refl
  | cons s l ih =>
    have h1 := h s (List.mem_cons_self ..)
    have h2 := ih (fun x hx => h x (List.mem_cons_of_mem _ hx))
    unfold sumR
    grind
theorem sumR_mem {f : (Nat → Int) → Rat} {L : List (Nat → Int)} (h : ∀ s, s ∈ L → 0 ≤ f s) {x : Nat → Int} (hx : x ∈ L) : f x ≤ sumR f L := by
  induction L with
  | nil => cases hx
  | cons s l ih =>
    have h1 := h s (List.mem_cons_self ..)
    have h2 := sumR_nn (fun y hy => h y (List.mem_cons_of_mem s hy))
    unfold sumR
    rcases List.mem_cons.mp hx with e | e
    · subst e; grind
    · have := ih (fun y hy => h y (List.mem_cons_of_mem _ hy)) e
      grind
theorem sumR_set {f : (Nat → Int) → Rat} {L : List (Nat → Int)} {i : Nat} (hi : i < L.length) (x : Nat → Int) : sumR f (L.set i x) = sumR f L - f (L.getD i d0) + f x := by
  induction L generalizing i with
  | nil => cases hi
  | cons s l ih =>
    cases i with
    | zero =>
      show f x + sumR f l = f s + sumR f l - f s + f x
      grind
    | succ j =>
      have := ih (i := j) (by simpa using hi)
      show f s + sumR f (l.set j x) = f s + sumR f l - f (l.getD j d0) + f x
      grind
theorem sumR_erase {f : (Nat → Int) → Rat} {L : List (Nat → Int)} {i : Nat} (hi : i < L.length) : sumR f (L.eraseIdx i) = sumR f L - f (L.getD i d0) := by
  induction L generalizing i with
  | nil => cases hi
  | cons s l ih =>
    cases i with
    | zero =>
      show sumR f l = f s + sumR f l - f s
      grind
    | succ j =>
      have := ih (i := j) (by simpa using hi)
      show f s + sumR f (l.eraseIdx j) = f s + sumR f l - f (l.getD j d0)
      grind
theorem sumR_app (f : (Nat → Int) → Rat) (a b : List (Nat → Int)) : sumR f (a ++ b) = sumR f a + sumR f b := by
  induction a with
  | nil => show sumR f b = 0 + sumR f b; grind
  | cons s l ih => show f s + sumR f (l ++ b) = f s + sumR f l + sumR f b; grind
theorem sumR_cg {f g : (Nat → Int) → Rat} {L : List (Nat → Int)} (h : ∀ s, s ∈ L → f s = g s) : sumR f L = sumR g L := by
  induction L with
  | nil => rfl
  | cons s l ih =>
    show f s + sumR f l = g s + sumR g l
    rw [h s (List.mem_cons_self ..), ih (fun x hx => h x (List.mem_cons_of_mem _ hx))]
theorem rcast_le {a b : Int} (h : a ≤ b) : (a : Rat) ≤ (b : Rat) := Rat.intCast_le_intCast.mpr h
theorem rcast_lt {a b : Int} (h : a < b) : (a : Rat) < (b : Rat) := Rat.intCast_lt_intCast.mpr h
theorem fdiv_q {x y : Int} (hy : 0 < y) : ((x / y : Int) : Rat) * (y : Rat) ≤ (x : Rat) := by
  have h := rcast_le (Int.ediv_mul_le x (show y ≠ 0 by omega))
  rw [Rat.intCast_mul] at h
  exact h
theorem cdiv_q {x y : Int} (hy : 0 < y) : (x : Rat) ≤ ((cdiv x y : Int) : Rat) * (y : Rat) := by
  have h : x ≤ cdiv x y * y := by
    rw [cdiv_eq hy]
    have e := Int.mul_ediv_add_emod x y
    have h1 := Int.emod_lt_of_pos x hy
    have ec : y * (x / y) = x / y * y := Int.mul_comm _ _
    split
    · omega
    · rw [Int.add_mul]
      omega
  have h := rcast_le h
  rw [Rat.intCast_mul] at h
  exact h
theorem fst_q {l a b : Int} (h : Lab l a b) : ((l * 100000 * (b - a) : Int) : Rat) = (l : Rat) * (rho a - rho b) * ((a * b : Int) : Rat) := by
  have h0 := h.2
  have ha : (a : Rat) ≠ 0 := by
    intro q
    have := Rat.intCast_eq_zero_iff.mp q
    omega
  have hb : (b : Rat) ≠ 0 := by
    intro q
    have := Rat.intCast_eq_zero_iff.mp q
    omega
  rw [Rat.intCast_mul, Rat.intCast_mul, Rat.intCast_sub, Rat.intCast_mul]
  unfold rho
  have : ((100000 : Int) : Rat) = 100000 := rfl
  rw [this]
  grind
theorem fst_lo {l a b : Int} (h : Lab l a b) : ((fst' l a b 0 : Int) : Rat) ≤ (l : Rat) * (rho a - rho b) := by
  have hp := h.p
  have h1 := fdiv_q (x := l * 100000 * (b - a)) hp.1
  rw [fst_q h] at h1
  exact Rat.le_of_mul_le_mul_right h1 (Rat.intCast_pos.mpr hp.1)
theorem fst_hi {l a b : Int} (h : Lab l a b) : (l : Rat) * (rho a - rho b) ≤ ((fst' l a b 1 : Int) : Rat) := by
  have hp := h.p
  have h1 := cdiv_q (x := l * 100000 * (b - a)) hp.1
  rw [fst_q h] at h1
  exact Rat.le_of_mul_le_mul_right h1 (Rat.intCast_pos.mpr hp.1)
theorem snd_lo {l a b : Int} : ((snd' l a b 0 : Int) : Rat) ≤ (l : Rat) * (((b : Rat) - (a : Rat)) / 100000) := by
  have h1 := fdiv_q (x := l * (b - a)) (y := 100000) (by omega)
  rw [Rat.intCast_mul, Rat.intCast_sub, show ((100000 : Int) : Rat) = 100000 from rfl] at h1
  have e : snd' l a b 0 = l * (b - a) / 100000 := rfl
  rw [e]
  grind
theorem snd_hi {l a b : Int} : (l : Rat) * (((b : Rat) - (a : Rat)) / 100000) ≤ ((snd' l a b 1 : Int) : Rat) := by
  have h1 := cdiv_q (x := l * (b - a)) (y := 100000) (by omega)
  rw [Rat.intCast_mul, Rat.intCast_sub, show ((100000 : Int) : Rat) = 100000 from rfl] at h1
  have e : snd' l a b 1 = cdiv (l * (b - a)) 100000 := rfl
  rw [e]
  grind
theorem rho_le {a b : Int} (h0 : 0 < a) (h : a ≤ b) : rho b ≤ rho a := by
  have ha : (0 : Rat) < (a : Rat) := Rat.intCast_pos.mpr h0
  have hb : (0 : Rat) < (b : Rat) := Rat.intCast_pos.mpr (by omega)
  have hl := rcast_le h
  have hab := Rat.mul_pos ha hb
  have e1 : rho b * ((a : Rat) * (b : Rat)) = 100000 * (a : Rat) := by unfold rho; grind
  have e2 : rho a * ((a : Rat) * (b : Rat)) = 100000 * (b : Rat) := by unfold rho; grind
  refine Rat.le_of_mul_le_mul_right (c := (a : Rat) * (b : Rat)) ?_ hab
  rw [e1, e2]
  grind
theorem uX_nn {r z lo hi : Int} (hR : Rzz r z) (ht : 0 ≤ lo ∧ lo < hi ∧ hi ≤ 40) (k : Nat) : 0 ≤ uX k r z lo hi := by
  obtain ⟨hz, h1, h2⟩ := hR
  have a1 := rtz_r (t := lo) (by omega) (by omega)
  have a2 := rtz_r (t := z) (by omega) (by omega)
  have a3 := rtz_lt (a := lo) (b := hi) (by omega) (by omega) (by omega)
  unfold uX
  split
  · split
    · have := rho_le (a := rtz lo) (b := rtz hi) (by omega) (by omega)
      grind
    · split
      · exact Rat.le_refl
      · have b1 := rtz_le (a := z + 1) (b := hi) (by omega) (by omega) (by omega)
        have := rho_le (a := r) (b := rtz hi) (by omega) (by omega)
        grind
  · split
    · grind
    · split
      · have := rcast_le (show rtz lo ≤ rtz hi by omega)
        grind
      · have b1 := rtz_le (a := lo) (b := z) (by omega) (by omega) (by omega)
        have := rcast_le (show rtz lo ≤ r by omega)
        grind
theorem lie_0 (r z l lo hi u : Int) : lie r z l lo hi 0 u = if hi ≤ z then 0 else fst' l (if z < lo then rtz lo else r) (rtz hi) u := if_pos rfl
theorem lie_1 (r z l lo hi u : Int) : lie r z l lo hi 1 u = if z < lo then 0 else snd' l (rtz lo) (if hi ≤ z then rtz hi else r) u := if_neg (by decide)
theorem uX_0 (r z lo hi : Int) : uX 0 r z lo hi = if z < lo then rho (rtz lo) - rho (rtz hi) else if hi ≤ z then 0 else rho r - rho (rtz hi) := if_pos rfl
theorem uX_1 (r z lo hi : Int) : uX 1 r z lo hi = (if z < lo then 0 else if hi ≤ z then (rtz hi : Rat) - (rtz lo : Rat) else (r : Rat) - (rtz lo : Rat)) / 100000 := if_neg (by decide)
theorem lie_lo {r z l lo hi : Int} (hR : Rzz r z) (hl : 0 ≤ l ∧ l ≤ 12000000) (ht : 0 ≤ lo ∧ lo < hi ∧ hi ≤ 40) {k : Nat} (hk : k < 2) : ((lie r z l lo hi k 0 : Int) : Rat) ≤ (l : Rat) * uX k r z lo hi := by
  obtain ⟨hz, h1, h2⟩ := hR
  have a1 := rtz_r (t := lo) (by omega) (by omega)
  have a2 := rtz_r (t := hi) (by omega) (by omega)
  have a3 := rtz_lt (a := lo) (b := hi) (by omega) (by omega) (by omega)
  have a4 := rtz_r (t := z) (by omega) (by omega)
  by_cases c : k = 0
  · subst c
    show ((lie r z l lo hi 0 0 : Int) : Rat) ≤ _
    rw [lie_0, uX_0]
    by_cases c1 : hi ≤ z
    · rw [if_pos c1, if_neg (by omega), if_pos c1, Rat.intCast_zero]; grind
    · rw [if_neg c1]
      by_cases c2 : z < lo
      · rw [if_pos c2, if_pos c2]
        exact fst_lo ⟨hl, by omega⟩
      · rw [if_neg c2, if_neg c2, if_neg c1]
        have b1 := rtz_le (a := z + 1) (b := hi) (by omega) (by omega) (by omega)
        exact fst_lo ⟨hl, by omega⟩
  · have : k = 1 := by omega
    subst this
    show ((lie r z l lo hi 1 0 : Int) : Rat) ≤ _
    rw [lie_1, uX_1]
    by_cases c2 : z < lo
    · rw [if_pos c2, if_pos c2, Rat.intCast_zero]; grind
    · rw [if_neg c2, if_neg c2]
      by_cases c1 : hi ≤ z
      · rw [if_pos c1, if_pos c1]
        exact snd_lo
      · rw [if_neg c1, if_neg c1]
        exact snd_lo
theorem lie_hi {r z l lo hi : Int} (hR : Rzz r z) (hl : 0 ≤ l ∧ l ≤ 12000000) (ht : 0 ≤ lo ∧ lo < hi ∧ hi ≤ 40) {k : Nat} (hk : k < 2) : (l : Rat) * uX k r z lo hi ≤ ((lie r z l lo hi k 1 : Int) : Rat) := by
  obtain ⟨hz, h1, h2⟩ := hR
  have a1 := rtz_r (t := lo) (by omega) (by omega)
  have a2 := rtz_r (t := hi) (by omega) (by omega)
  have a3 := rtz_lt (a := lo) (b := hi) (by omega) (by omega) (by omega)
  have a4 := rtz_r (t := z) (by omega) (by omega)
  by_cases c : k = 0
  · subst c
    show _ ≤ ((lie r z l lo hi 0 1 : Int) : Rat)
    rw [lie_0, uX_0]
    by_cases c1 : hi ≤ z
    · rw [if_pos c1, if_neg (by omega), if_pos c1, Rat.intCast_zero]; grind
    · by_cases c2 : z < lo
      · simp only [if_neg c1, if_pos c2]
        exact fst_hi ⟨hl, by omega⟩
      · simp only [if_neg c1, if_neg c2]
        have b1 := rtz_le (a := z + 1) (b := hi) (by omega) (by omega) (by omega)
        exact fst_hi ⟨hl, by omega⟩
  · have : k = 1 := by omega
    subst this
    show _ ≤ ((lie r z l lo hi 1 1 : Int) : Rat)
    rw [lie_1, uX_1]
    by_cases c2 : z < lo
    · rw [if_pos c2, if_pos c2, Rat.intCast_zero]; grind
    · rw [if_neg c2, if_neg c2]
      by_cases c1 : hi ≤ z
      · rw [if_pos c1, if_pos c1]
        exact snd_hi
      · rw [if_neg c1, if_neg c1]
        exact snd_hi
