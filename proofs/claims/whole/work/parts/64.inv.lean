/-! the invariant of memory -/
def rho (x : Int) : Rat := 100000 / (x : Rat)
def rtz (t : Int) : Int := zroots t.toNat
/-- what lies in one of liquidity, to the last fraction -/
def uX (k : Nat) (r z lo hi : Int) : Rat :=
  if k = 0 then (if z < lo then rho (rtz lo) - rho (rtz hi) else if hi ≤ z then 0 else rho r - rho (rtz hi))
  else (if z < lo then 0 else if hi ≤ z then (rtz hi : Rat) - (rtz lo : Rat) else (r : Rat) - (rtz lo : Rat)) / 100000
def oweX (k : Nat) (s : Nat → Int) : Rat := (s (8 + k) : Rat) + (s 5 : Rat) * (s (6 + k) : Rat) / 1048576
def sumR (f : (Nat → Int) → Rat) : List (Nat → Int) → Rat
  | [] => 0
  | s :: l => f s + sumR f l
def claimX (p : Nat) (k : Nat) (r z : Int) (s : Nat → Int) : Rat := if s 1 = p then oweX k s + (s 5 : Rat) * uX k r z (s 2) (s 3) else 0
/-- D: what is lent -/
def SolvD (D : Nat → Nat → Int) (N : Nat → Int) (L : List (Nat → Int)) (p k : Nat) : Prop := (N (22 + 23 * p + (4 + k)) : Rat) + sumR (claimX p k (N (22 + 23 * p)) (N (22 + 23 * p + 1))) L ≤ (N (22 + 23 * p + (2 + k)) : Rat) + (D p k : Rat)
def totP (N T : Nat → Int) (po : Int) (t : Int) (p : Nat) : Int := if (p : Int) < po then (if T (5 * p) = t then N (22 + 23 * p + 2) else 0) + (if T (5 * p + 1) = t then N (22 + 23 * p + 3) else 0) else 0
def tot (N T : Nat → Int) (po : Int) (t : Nat) : Int := N (2 + t) + N (2 + (5 + t)) + N (2 + (10 + t)) + N (2 + (15 + t)) + (totP N T po t 0 + totP N T po t 1 + totP N T po t 2 + totP N T po t 3 + totP N T po t 4)
def MnyD (D : Nat → Nat → Int) (N T : Nat → Int) (L : List (Nat → Int)) (po : Int) : Prop :=
  (∀ j, j < 20 → 0 ≤ N (2 + j)) ∧ (∀ p k : Nat, p < 5 → (p : Int) < po → k < 2 → 0 ≤ N (22 + 23 * p + (4 + k)) ∧ 0 ≤ N (22 + 23 * p + (2 + k)) ∧ SolvD D N L p k) ∧ (∀ t, t < 5 → tot N T po t ≤ 39999996) ∧ (∀ s, s ∈ L → ∀ w, 6 ≤ w → w < 10 → 0 ≤ s w)
def D0 : Nat → Nat → Int := fun _ _ => 0
def Mny (N T : Nat → Int) (L : List (Nat → Int)) (po : Int) : Prop := MnyD D0 N T L po
def Mrk (N : Nat → Int) (p : Nat) : Prop :=
  (1 ≤ N (22 + 23 * p + 6) ∧ N (22 + 23 * p + 6) ≤ 8) ∧ (0 ≤ N (22 + 23 * p + 7) ∧ 0 ≤ N (22 + 23 * p + 8) ∧ N (22 + 23 * p + 8) ≤ 39 * N (22 + 23 * p + 7)) ∧
  (∀ i : Nat, (i : Int) + 1 < N (22 + 23 * p + 6) → N (22 + 23 * p + (7 + 2 * i)) < N (22 + 23 * p + (7 + 2 * (i + 1))) ∧ N (22 + 23 * p + (8 + 2 * i)) ≤ N (22 + 23 * p + (8 + 2 * (i + 1))) ∧ N (22 + 23 * p + (8 + 2 * (i + 1))) ≤ N (22 + 23 * p + (8 + 2 * i)) + 39 * (N (22 + 23 * p + (7 + 2 * (i + 1))) - N (22 + 23 * p + (7 + 2 * i)))) ∧
  (∀ i : Nat, (i : Int) < N (22 + 23 * p + 6) → N (22 + 23 * p + (7 + 2 * i)) ≤ N 0)
def Told (T : Nat → Int) (th : Int) (p : Nat) : Prop := (0 ≤ T (5 * p) ∧ T (5 * p) < th) ∧ (0 ≤ T (5 * p + 1) ∧ T (5 * p + 1) < th) ∧ T (5 * p) ≠ T (5 * p + 1) ∧ (0 ≤ T (5 * p + 2) ∧ T (5 * p + 2) ≤ 99) ∧ (0 ≤ T (5 * p + 3) ∧ T (5 * p + 3) ≤ 100) ∧ (1 ≤ T (5 * p + 4) ∧ T (5 * p + 4) ≤ 10)
/-- root and zone of a pool -/
def Rz (N : Nat → Int) (p : Nat) : Prop := (0 ≤ N (22 + 23 * p + 1) ∧ N (22 + 23 * p + 1) < 40) ∧ rtz (N (22 + 23 * p + 1)) ≤ N (22 + 23 * p) ∧ N (22 + 23 * p) ≤ rtz (N (22 + 23 * p + 1) + 1)
def Sz (L : List (Nat → Int)) (th pe po : Int) : Prop := (th = 0 ∧ pe = 0 ∧ po = 0 ∧ L = []) ∨ ((2 ≤ th ∧ th ≤ 5) ∧ (1 ≤ pe ∧ pe ≤ 4) ∧ (0 ≤ po ∧ po ≤ 5))
/-- what every swap rests on -/
def WF (N T : Nat → Int) (L : List (Nat → Int)) (th pe po : Int) : Prop := Sz L th pe po ∧ (∀ p : Nat, p < 5 → (p : Int) < po → Told T th p ∧ Rz N p) ∧ Lok pe po L
def KON (M : MZ) : Prop := (∀ j, j < 41 → zL M 21 j = zroots j) ∧ (∀ j, 12 ≤ j → j < 24 → zL M 20 j = (words0.getD j 0).toInt) ∧ (∀ j, j < 7 → zL M 33 j = (steps0.getD j 0).toInt)
def TAP (M : MZ) : Prop := (0 ≤ zI M 2 0 ∧ zI M 2 0 ≤ 400) ∧ zI M 20 8 = zI M 2 0 ∧ (∀ j, j < 400 → zI M 25 j = zI M 3 j ∧ -128 ≤ zI M 3 j ∧ zI M 3 j ≤ 127)
def IV (M : MZ) : Prop := ∃ (N T : Nat → Int) (L : List (Nat → Int)) (th pe po : Int), Rep true M 78 N T L th pe po ∧ RepR M N T L th pe po ∧ WF N T L th pe po ∧ Mny N T L po ∧ (∀ p : Nat, p < 5 → (p : Int) < po → Mrk N p) ∧ (0 ≤ N 0 ∧ N 0 ≤ 9999999) ∧ HP M 143 ∧ KON M ∧ TAP M
def INV (S : Mem) : Prop := IV (tz S)
theorem b78 : bOK 78 := Or.inl rfl
theorem b143 : bOK 143 := Or.inr rfl
theorem Sz.r {L : List (Nat → Int)} {th pe po : Int} (h : Sz L th pe po) : (0 ≤ th ∧ th ≤ 5) ∧ (0 ≤ pe ∧ pe ≤ 4) ∧ (0 ≤ po ∧ po ≤ 5) := by
  rcases h with ⟨a, b, c, _⟩ | ⟨a, b, c⟩ <;> omega
theorem zR_nat {p : Int} (h : 0 ≤ p) : ∃ n : Nat, p = n := ⟨p.toNat, by omega⟩
/-- calls that change nothing -/
theorem q_root {M : MZ} (h : IV M) (p : Int) : ∃ r, g_X11_root p M = some (r, M) ∧ g_X12_root p M = some (r, M) := by
  obtain ⟨N, T, L, th, pe, po, R, RR, W, -, -, -, -, K, -⟩ := h
  unfold g_X11_root g_X11_root_15 g_X12_root g_X12_root_23
  rw [K_isTick, R_isIn]
  simp only [bindS, bI_0]
  by_cases hp : 0 ≤ p ∧ p ≤ 40
  · have h1 := rt_lo p.toNat (by omega)
    have h2 := rt_hi p.toNat (by omega)
    rw [if_neg (fun q => q hp), if_neg (fun q => q hp), K_rootAt hp.1 hp.2, if_pos (by omega), K.1 _ (by omega), w32_id (by omega) (by omega)]
    exact ⟨_, rfl, rfl⟩
  · rw [if_pos hp, if_pos hp]
    exact ⟨_, rfl, rfl⟩
theorem q_purse {M : MZ} (h : IV M) (p t : Int) : ∃ r, g_X11_purse p t M = some (r, M) ∧ g_X12_purse p t M = some (r, M) := by
  obtain ⟨N, T, L, th, pe, po, R, RR, W, -⟩ := h
  have hz := W.1.r
  unfold g_X11_purse g_X11_purse_34 g_X11_purse_35 g_X12_purse g_X12_purse_26 g_X12_purse_27
  rw [K_hasPerson b78, R_isPerson]
  simp only [bindS, bI_0]
  rw [R.1.2.1, RR.1.2.1]
  by_cases hp : 0 ≤ p ∧ p < pe
  · rw [if_neg (fun q => q hp), if_neg (fun q => q hp), K_hasThing b78, R_isThing]
    simp only [bindS, bI_0]
    rw [R.1.1, RR.1.1]
    by_cases ht : 0 ≤ t ∧ t < th
    · obtain ⟨p, rfl⟩ := zR_nat hp.1
      obtain ⟨t, rfl⟩ := zR_nat ht.1
      rw [if_neg (fun q => q ht), if_neg (fun q => q ht), K_purseOf b78 (by omega) (by omega), R_inPurse (by omega) (by omega)]
      simp only [bindS]
      rw [R.2.1 _ (by omega), RR.2.2.1 _ (by omega)]
      exact ⟨_, rfl, rfl⟩
    · rw [if_pos ht, if_pos ht]
      exact ⟨_, rfl, rfl⟩
  · rw [if_pos hp, if_pos hp]
    exact ⟨_, rfl, rfl⟩
theorem q_depth {M : MZ} (h : IV M) (p z : Int) : ∃ r, g_X11_depth p z M = some (r, M) ∧ g_X12_depth p z M = some (r, M) := by
  obtain ⟨N, T, L, th, pe, po, R, RR, W, -⟩ := h
  have hz := W.1.r
  unfold g_X11_depth g_X11_depth_31 g_X11_depth_32 g_X12_depth g_X12_depth_30 g_X12_depth_31
  rw [R_isPool, RR.1.2.2]
  simp only [bindS, bI_0]
  by_cases hp : 0 ≤ p ∧ p < po
  · obtain ⟨p, rfl⟩ := zR_nat hp.1
    rw [K_poolAt_y b78 (by omega) (by rw [R.1.2.2.1]; exact hp.2), if_neg (fun q => q hp), R_isIn]
    simp only [bindS, bI_0, K_isZone]
    rw [if_neg (by omega)]
    by_cases hc : 0 ≤ z ∧ z < 40
    · rw [if_neg (fun q => q hc), if_neg (by omega), K_liq b78 R W.2.2, R_depthOf RR W.2.2]
      exact ⟨_, rfl, rfl⟩
    · rw [if_pos hc, if_pos (by omega)]
      exact ⟨_, rfl, rfl⟩
  · rw [K_poolAt_n b78 (by rw [R.1.2.2.1]; exact hp), if_pos hp]
    simp only [bindS]
    exact ⟨_, rfl, rfl⟩
theorem q_count {M : MZ} (h : IV M) (p : Int) : ∃ r, g_X11_count p M = some (r, M) ∧ g_X12_count p M = some (r, M) := by
  obtain ⟨N, T, L, th, pe, po, R, RR, W, -, -, ht, -, -, hA⟩ := h
  unfold g_X11_count g_X12_count
  simp only [R_stakes RR, bindS]
  rw [R.1.1, R.1.2.1, R.1.2.2.1, R.1.2.2.2.1, R.1.2.2.2.2.1, R.1.2.2.2.2.2, RR.1.1, RR.1.2.1, RR.1.2.2, hA.2.1, RR.2.2.1 0 (by omega), RR.2.2.1 1 (by omega), w32_id (x := N 0) (by omega) (by omega)]
  repeat' split
  all_goals exact ⟨_, rfl, rfl⟩
theorem SO_q {f g : Mem → Option (Int32 × Mem)} {f' g' : MZ → Option (Int × MZ)} (hf : ∀ S, Lf tI (f S) = f' (tz S)) (hg : ∀ S, Lf tI (g S) = g' (tz S)) (h : ∀ M, IV M → ∃ r, f' M = some (r, M) ∧ g' M = some (r, M)) : SO INV f g :=
  SO_of (IV := IV) hf hg (fun M hM => by
    obtain ⟨r, h1, h2⟩ := h M hM
    exact ⟨r, M, M, h1, h2, hM⟩)
theorem ok_root (a : Int32) : SO INV (f_X11_root a) (f_X12_root a) := SO_q (fun _ => l_X11_root rfl rfl) (fun _ => l_X12_root rfl rfl) (fun _ h => q_root h _)
theorem ok_purse (a b : Int32) : SO INV (f_X11_purse a b) (f_X12_purse a b) := SO_q (fun _ => l_X11_purse rfl rfl rfl) (fun _ => l_X12_purse rfl rfl rfl) (fun _ h => q_purse h _ _)
theorem ok_depth (a b : Int32) : SO INV (f_X11_depth a b) (f_X12_depth a b) := SO_q (fun _ => l_X11_depth rfl rfl rfl) (fun _ => l_X12_depth rfl rfl rfl) (fun _ h => q_depth h _ _)
theorem ok_count (a : Int32) : SO INV (f_X11_count a) (f_X12_count a) := SO_q (fun _ => l_X11_count rfl rfl) (fun _ => l_X12_count rfl rfl) (fun _ h => q_count h _)
