/-! looking for a stake; is a range of ticks one -/
def fsc (P : Nat → Bool) : Nat → Nat → Int
  | 0, _ => -1
  | n + 1, i => if P i then (i : Int) else fsc P n (i + 1)
def isq (per p lo hi au : Int) (s : Nat → Int) : Bool := decide (s 0 = per ∧ s 1 = p ∧ s 2 = lo ∧ s 3 = hi ∧ s 4 = au)
def fnd (L : List (Nat → Int)) (per p lo hi au : Int) : Int := fsc (fun i => isq per p lo hi au (L.getD i d0)) L.length 0
theorem fsc_r (P : Nat → Bool) : ∀ n i, (fsc P n i = -1 ∧ ∀ j, i ≤ j → j < i + n → P j = false) ∨ (∃ j, i ≤ j ∧ j < i + n ∧ fsc P n i = (j : Int) ∧ P j = true) := by
  intro n
  induction n with
  | zero => intro i; exact Or.inl ⟨rfl, fun j h1 h2 => by omega⟩
  | succ n ih =>
    intro i
    unfold fsc
    by_cases c : P i = true
    · exact Or.inr ⟨i, Nat.le_refl _, by omega, by rw [if_pos c], c⟩
    · rw [if_neg c]
      rcases ih (i + 1) with ⟨h1, h2⟩ | ⟨j, h1, h2, h3, h4⟩
      · refine Or.inl ⟨h1, fun j h3 h4 => ?_⟩
        by_cases e : j = i
        · subst e; simpa using c
        · exact h2 j (by omega) (by omega)
      · exact Or.inr ⟨j, by omega, by omega, h3, h4⟩
theorem fnd_r (L : List (Nat → Int)) (per p lo hi au : Int) : fnd L per p lo hi au = -1 ∨ (∃ j, j < L.length ∧ fnd L per p lo hi au = (j : Int) ∧ (L.getD j d0 0 = per ∧ L.getD j d0 1 = p ∧ L.getD j d0 2 = lo ∧ L.getD j d0 3 = hi ∧ L.getD j d0 4 = au)) := by
  rcases fsc_r (fun i => isq per p lo hi au (L.getD i d0)) L.length 0 with ⟨h1, _⟩ | ⟨j, _, h2, h3, h4⟩
  · exact Or.inl h1
  · exact Or.inr ⟨j, by omega, h3, of_decide_eq_true h4⟩
section FN
variable {M : MZ} {b : Nat} {kk : Bool} {N T : Nat → Int} {L : List (Nat → Int)} {th pe po : Int}
theorem K_isOf (hb : bOK b) (R : Rep kk M b N T L th pe po) {i : Nat} (hi : i < L.length) (per p lo hh au : Int) : g_X7_isOf (zR M (b + 3) i) per p lo hh au M = some (bI (isq per p lo hh au (L.getD i d0) = true), M) := by
  have h12 := R.2.2.2.2.2.2
  unfold g_X7_isOf g_X7_isOf_46 g_X7_isOf_47 bI isq
  rw [if_pos (R.2.2.2.2.2.1.kd hb (by omega)), K_sI R hi (w := 0) (by omega), K_sI R hi (w := 1) (by omega), K_sI R hi (w := 2) (by omega), K_sI R hi (w := 3) (by omega), K_sI R hi (w := 4) (by omega), if_pos (Or.inl rfl), if_pos (Or.inr rfl)]
  by_cases c : L.getD i d0 0 = per ∧ L.getD i d0 1 = p ∧ L.getD i d0 2 = lo ∧ L.getD i d0 3 = hh ∧ L.getD i d0 4 = au
  · rw [if_pos c.1, if_pos c.2.1, if_pos c.2.2.1, if_pos c.2.2.2.1, if_pos c.2.2.2.2, if_pos (decide_eq_true c)]
  · rw [if_neg (show ¬ decide _ = true from fun q => c (of_decide_eq_true q))]
    repeat' split
    all_goals first | rfl | (exfalso; apply c; exact ⟨by assumption, by assumption, by assumption, by assumption, by assumption⟩)
theorem K_find_loop (hb : bOK b) (R : Rep kk M b N T L th pe po) (per p lo hh au : Int) : ∀ (n i f : Nat), i + n = L.length → n < f → g_X2_findStake_3 f b per p lo hh au i M = some (fsc (fun i => isq per p lo hh au (L.getD i d0)) n i, M) := by
  have h12 := R.2.2.2.2.2.2
  have h3 := R.1.2.2.2.1
  intro n
  induction n with
  | zero =>
    intro i f hi hf
    obtain ⟨f, rfl⟩ : ∃ g, f = g + 1 := ⟨f - 1, by omega⟩
    unfold g_X2_findStake_3 g_X2_findStake_3B g_X2_findStake_51
    rw [if_pos (kdb hb), if_pos (by omega)]
    rfl
  | succ n ih =>
    intro i f hi hf
    obtain ⟨f, rfl⟩ : ∃ g, f = g + 1 := ⟨f - 1, by omega⟩
    have hl : i < L.length := by omega
    have e2 := ih (i + 1) f (by omega) (by omega)
    have eh : zR M (b + 3) (i : Int).toNat = zR M (b + 3) i := by rw [Int.toNat_natCast]
    unfold g_X2_findStake_3 g_X2_findStake_3B
    rw [if_pos (kdb hb), if_neg (by omega), if_neg (by omega), if_pos (by omega), eh, if_pos (R.2.2.2.2.2.1.kd hb (by omega)), K_isOf hb R hl]
    simp only [bindS, bI_0]
    rw [w32_id (x := (i : Int) + 1) (by omega) (by omega), show (i : Int) + 1 = ((i + 1 : Nat) : Int) by omega, e2]
    have ef : fsc (fun i => isq per p lo hh au (L.getD i d0)) (n + 1) i = if isq per p lo hh au (L.getD i d0) = true then (i : Int) else fsc (fun i => isq per p lo hh au (L.getD i d0)) n (i + 1) := rfl
    rw [ef]
    by_cases c : isq per p lo hh au (L.getD i d0) = true
    · rw [if_neg (fun q => q c), if_pos c]
    · rw [if_pos c, if_neg c]
theorem K_find (hb : bOK b) (R : Rep kk M b N T L th pe po) (per p lo hh au : Int) : g_X2_findStake b per p lo hh au M = some (fnd L per p lo hh au, M) := by
  have h12 := R.2.2.2.2.2.2
  exact K_find_loop hb R per p lo hh au L.length 0 100000 (by omega) (by omega)
theorem R_find_loop (R : RepR M N T L th pe po) (per p lo hh au : Int) : ∀ (n i f : Nat), i + n = L.length → n < f → g_X12_stakeOf_3 f per p lo hh au i M = some (fsc (fun i => isq per p lo hh au (L.getD i d0)) n i, M) := by
  have h12 := R.2.2.2.2.2
  intro n
  induction n with
  | zero =>
    intro i f hi hf
    obtain ⟨f, rfl⟩ : ∃ g, f = g + 1 := ⟨f - 1, by omega⟩
    unfold g_X12_stakeOf_3 g_X12_stakeOf_3B
    rw [R_stakes R]
    simp only [bindS]
    rw [if_pos (by omega)]
    rfl
  | succ n ih =>
    intro i f hi hf
    obtain ⟨f, rfl⟩ : ∃ g, f = g + 1 := ⟨f - 1, by omega⟩
    have hl : i < L.length := by omega
    have e2 := ih (i + 1) f (by omega) (by omega)
    have ew : ∀ x : Int, 0 ≤ x → x < 10 → g_X12_ofStake i x M = some (L.getD i d0 x.toNat, M) := fun x h1 h2 => R_stk R hl h1 h2
    unfold g_X12_stakeOf_3 g_X12_stakeOf_3B g_X12_stakeOf_82
    rw [R_stakes R]
    simp only [bindS, ew 0 (by omega) (by omega), ew 1 (by omega) (by omega), ew 2 (by omega) (by omega), ew 3 (by omega) (by omega), ew 4 (by omega) (by omega), show (0 : Int).toNat = 0 from rfl, show (1 : Int).toNat = 1 from rfl, show (2 : Int).toNat = 2 from rfl, show (3 : Int).toNat = 3 from rfl, show (4 : Int).toNat = 4 from rfl]
    rw [if_neg (by omega), w32_id (x := (i : Int) + 1) (by omega) (by omega), show (i : Int) + 1 = ((i + 1 : Nat) : Int) by omega, e2]
    have ef : fsc (fun i => isq per p lo hh au (L.getD i d0)) (n + 1) i = if isq per p lo hh au (L.getD i d0) = true then (i : Int) else fsc (fun i => isq per p lo hh au (L.getD i d0)) n (i + 1) := rfl
    rw [ef]
    unfold isq
    by_cases c : L.getD i d0 0 = per ∧ L.getD i d0 1 = p ∧ L.getD i d0 2 = lo ∧ L.getD i d0 3 = hh ∧ L.getD i d0 4 = au
    · rw [if_pos c.1, if_pos c.2.1, if_pos c.2.2.1, if_pos c.2.2.2.1, if_pos c.2.2.2.2, if_pos (decide_eq_true c)]
    · rw [if_neg (show ¬ decide _ = true from fun q => c (of_decide_eq_true q))]
      repeat' split
      all_goals first | rfl | (exfalso; apply c; exact ⟨by assumption, by assumption, by assumption, by assumption, by assumption⟩)
theorem R_find (R : RepR M N T L th pe po) (per p lo hh au : Int) : g_X12_stakeOf per p lo hh au M = some (fnd L per p lo hh au, M) := by
  have h12 := R.2.2.2.2.2
  exact R_find_loop R per p lo hh au L.length 0 100000 (by omega) (by omega)
def rgo (sp lo hi : Int) : Prop := (0 ≤ lo ∧ lo ≤ 40) ∧ (0 ≤ hi ∧ hi ≤ 40) ∧ lo < hi ∧ Int.tmod lo sp = 0 ∧ Int.tmod hi sp = 0
theorem K_range (hb : bOK b) (R : Rep kk M b N T L th pe po) (W : WF N T L th pe po) {p : Nat} (hp : p < 5) (hq : (p : Int) < po) (lo hi : Int) [Decidable (rgo (T (5 * p + 4)) lo hi)] : g_X2_isRange (b + 2 + 2 + 5 * p) lo hi M = some (bI (rgo (T (5 * p + 4)) lo hi), M) := by
  have ht := (W.2.1 p hp hq).1.2.2.2.2.2
  unfold g_X2_isRange g_X2_isRange_48 g_X2_isRange_49 bI
  simp only [K_isTick, bindS, bI_0]
  rw [if_pos (kdp hb hp), K_told R hp hq (by omega), if_neg (show ¬ T (5 * p + 4) ≤ 0 by omega), if_neg (show ¬ T (5 * p + 4) = 0 by omega), if_neg (show ¬ T (5 * p + 4) = 0 by omega), if_pos (Or.inl trivial), if_pos (Or.inr trivial)]
  by_cases c : rgo (T (5 * p + 4)) lo hi
  · rw [if_pos c]
    unfold rgo at c
    rw [if_neg (fun q => q c.1), if_neg (fun q => q c.2.1), if_neg (by omega), if_pos c.2.2.2.1, if_pos c.2.2.2.2]
  · rw [if_neg c]
    unfold rgo at c
    repeat' split
    all_goals first | rfl | (exfalso; apply c; refine ⟨by omega, by omega, by omega, by assumption, by assumption⟩)
theorem R_range (R : RepR M N T L th pe po) (W : WF N T L th pe po) {p : Nat} (hp : p < 5) (hq : (p : Int) < po) (lo hi : Int) [Decidable (rgo (T (5 * p + 4)) lo hi)] : g_X12_areTicks p lo hi M = some (bI (rgo (T (5 * p + 4)) lo hi), M) := by
  have ht := (W.2.1 p hp hq).1.2.2.2.2.2
  unfold g_X12_areTicks g_X12_areTicks_12 g_X12_areTicks_59 g_X12_areTicks_60 bI
  simp only [R_isIn, bindS, bI_0]
  rw [ixT (by omega) (by omega), if_pos (by omega), show (5 * (p : Int) + 4).toNat = 5 * p + 4 by omega, R.2.1 _ (by omega), if_neg (show ¬ T (5 * p + 4) = 0 by omega), if_neg (show ¬ T (5 * p + 4) = 0 by omega), if_pos (Or.inl trivial), if_pos (Or.inr trivial)]
  by_cases c : rgo (T (5 * p + 4)) lo hi
  · rw [if_pos c]
    unfold rgo at c
    rw [if_neg (fun q => q c.1), if_neg (fun q => q c.2.1), if_neg (by omega), if_pos c.2.2.2.1, if_pos c.2.2.2.2]
  · rw [if_neg c]
    unfold rgo at c
    repeat' split
    all_goals first | rfl | (exfalso; apply c; refine ⟨by omega, by omega, by omega, by assumption, by assumption⟩)
end FN
