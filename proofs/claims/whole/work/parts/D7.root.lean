/-! the root at the start -/
theorem or64_nat {x y : Nat} (hx : x < 1099511627776) (hy : y < 1099511627776) : or64 x y = ((x ||| y : Nat) : Int) := by
  have e1 : (BitVec.ofInt 64 (x : Int)).toNat = x := by
    rw [BitVec.toNat_ofInt]
    omega
  have e2 : (BitVec.ofInt 64 (y : Int)).toNat = y := by
    rw [BitVec.toNat_ofInt]
    omega
  have e3 : (BitVec.ofInt 64 (x : Int) ||| BitVec.ofInt 64 (y : Int)).toNat = x ||| y := by
    rw [BitVec.toNat_or, e1, e2]
  have h : x ||| y < 2 ^ 40 := Nat.or_lt_two_pow (by omega) (by omega)
  show (BitVec.ofInt 64 (x : Int) ||| BitVec.ofInt 64 (y : Int)).toInt = _
  rw [BitVec.toInt_eq_toNat_of_lt (by rw [e3]; omega), e3]
theorem or_bit (k q : Nat) : 2 ^ (k + 1) * q ||| 2 ^ k = 2 ^ (k + 1) * q + 2 ^ k := by
  rw [Nat.two_pow_add_eq_or_of_lt (by rw [Nat.pow_succ]; have := Nat.two_pow_pos k; omega)]
theorem shr_bit : ∀ k, k < 24 → shr64 ((2 ^ (k + 1) : Nat) : Int) (and64 1 63) = ((2 ^ k : Nat) : Int) := by decide +kernel
theorem shr_0 : shr64 ((2 ^ 0 : Nat) : Int) (and64 1 63) = 0 := by decide +kernel
theorem sqn {a b : Nat} (h : a ≤ b) : a * a ≤ b * b := Nat.mul_le_mul h h
theorem R_rootN_loop {pr : Nat} (hpr : pr < 1125899906842624) (M : MZ) : ∀ (k q f : Nat), k ≤ 24 → k + 1 < f → 2 ^ (k + 1) * q ≤ 33554432 → 2 ^ (k + 1) * q * (2 ^ (k + 1) * q) ≤ pr → pr < (2 ^ (k + 1) * q + 2 ^ (k + 1)) * (2 ^ (k + 1) * q + 2 ^ (k + 1)) → ∃ v : Nat, g_X12_rootOfNumber_7 f pr ((2 ^ (k + 1) * q : Nat) : Int) ((2 ^ k : Nat) : Int) M = some ((v : Int), M) ∧ v * v ≤ pr ∧ pr < (v + 1) * (v + 1) := by
  intro k
  induction k with
  | zero =>
    intro q f hk hf hr h1 h2
    obtain ⟨f, rfl⟩ : ∃ g, f = g + 2 := ⟨f - 2, by omega⟩
    have hb := or_bit 0 q
    generalize eR : 2 ^ (0 + 1) * q = r at *
    have e : g_X12_rootOfNumber_7 (f + 2) pr (r : Int) ((2 ^ 0 : Nat) : Int) M = g_X12_rootOfNumber_7B (g_X12_rootOfNumber_7 (f + 1)) pr (r : Int) ((2 ^ 0 : Nat) : Int) M := rfl
    have e2 : ∀ w : Int, g_X12_rootOfNumber_7 (f + 1) pr w 0 M = some (w, M) := fun w => by
      have e : g_X12_rootOfNumber_7 (f + 1) pr w 0 M = g_X12_rootOfNumber_7B (g_X12_rootOfNumber_7 f) pr w 0 M := rfl
      rw [e]
      unfold g_X12_rootOfNumber_7B
      rw [if_pos (by omega)]
    have m1 : (r + 1) * (r + 1) ≤ 33554433 * 33554433 := sqn (by omega)
    rw [e]
    unfold g_X12_rootOfNumber_7B g_X12_rootOfNumber_33
    rw [if_neg (by omega), or64_nat (by omega) (by omega), hb, shr_0, e2, e2]
    have e1 : (2 : Nat) ^ 0 = 1 := rfl
    have e3 : (2 : Nat) ^ (0 + 1) = 2 := rfl
    rw [e1]
    have em : (((r + 1 : Nat) : Int)) * ((r + 1 : Nat) : Int) = (((r + 1) * (r + 1) : Nat) : Int) := by rw [Int.natCast_mul]
    rw [em, w64_id (by omega) (by omega)]
    by_cases c : (pr : Int) < (((r + 1) * (r + 1) : Nat) : Int)
    · rw [if_pos c]
      exact ⟨r, rfl, h1, by omega⟩
    · rw [if_neg c]
      refine ⟨r + 1, rfl, by omega, ?_⟩
      rw [e3] at h2
      exact h2
  | succ k ih =>
    intro q f hk hf hr h1 h2
    obtain ⟨f, rfl⟩ : ∃ g, f = g + 1 := ⟨f - 1, by omega⟩
    have hb := or_bit (k + 1) q
    have hp : (2 : Nat) ^ (k + 1 + 1) = 2 * 2 ^ (k + 1) := by rw [Nat.pow_succ]; omega
    have hle : (2 : Nat) ^ (k + 1) ≤ 2 ^ 24 := Nat.pow_le_pow_right (by omega) hk
    have hpos := Nat.two_pow_pos (k + 1)
    have er : 2 ^ (k + 1 + 1) * q = 2 ^ (k + 1) * (2 * q) := by rw [hp, Nat.mul_assoc, Nat.mul_left_comm]
    have er1 : 2 ^ (k + 1 + 1) * q + 2 ^ (k + 1) = 2 ^ (k + 1) * (2 * q + 1) := by rw [er, Nat.mul_add, Nat.mul_one]
    have i0 := ih (2 * q) f (by omega) (by omega)
    have i1 := ih (2 * q + 1) f (by omega) (by omega)
    rw [← er] at i0
    rw [← er1] at i1
    generalize 2 ^ (k + 1 + 1) * q = r at *
    have esh := shr_bit k (by omega)
    rw [hp] at h2
    generalize (2 : Nat) ^ (k + 1) = t at *
    have m1 : (r + t) * (r + t) ≤ 100663296 * 100663296 := sqn (by omega)
    have e : g_X12_rootOfNumber_7 (f + 1) pr (r : Int) (t : Int) M = g_X12_rootOfNumber_7B (g_X12_rootOfNumber_7 f) pr (r : Int) (t : Int) M := rfl
    rw [e]
    unfold g_X12_rootOfNumber_7B g_X12_rootOfNumber_33
    rw [if_neg (by omega), or64_nat (by omega) (by omega), hb, esh]
    have em : (((r + t : Nat) : Int)) * ((r + t : Nat) : Int) = (((r + t) * (r + t) : Nat) : Int) := by rw [Int.natCast_mul]
    rw [em, w64_id (by omega) (by omega)]
    by_cases c : (pr : Int) < (((r + t) * (r + t) : Nat) : Int)
    · rw [if_pos c]
      exact i0 hr h1 (by omega)
    · rw [if_neg c]
      have hr2 : r + t ≤ 33554432 := by
        rcases Nat.lt_or_ge 33554432 (r + t) with z | z
        · have := sqn (Nat.le_of_lt z)
          omega
        · exact z
      refine i1 hr2 (by omega) ?_
      rw [show r + t + t = r + 2 * t by omega]
      exact h2
theorem R_rootN {pr : Nat} (hpr : pr < 1125899906842624) (M : MZ) : ∃ v : Nat, g_X12_rootOfNumber pr M = some ((v : Int), M) ∧ v * v ≤ pr ∧ pr < (v + 1) * (v + 1) := by
  have h := R_rootN_loop hpr M 24 0 100000 (by omega) (by omega) (by omega) (by omega) (by omega)
  exact h
theorem mul_lt_sq {a b : Int} (h0 : 0 ≤ a) (h : a < b) : (a + 1) * (a + 1) ≤ b * b := Int.mul_le_mul (by omega) (by omega) (by omega) (by omega)
theorem SQ_uniq {pr v w : Int} (h1 : SQ pr v) (h2 : SQ pr w) : v = w := by
  obtain ⟨a1, a2, a3⟩ := h1
  obtain ⟨b1, b2, b3⟩ := h2
  rcases Int.lt_trichotomy v w with c | c | c
  · have := mul_lt_sq (a := v) (b := w) (by omega) c
    omega
  · exact c
  · have := mul_lt_sq (a := w) (b := v) (by omega) c
    omega
theorem K_start_loop {pr : Int} (M : MZ) : ∀ (n i f : Nat) (lo hi : Int), i + n ≤ 60 → n < f → hi - lo < 2 ^ n → 38554 ≤ lo → lo ≤ hi → hi ≤ 259374 → (lo = 38554 ∨ lo * lo ≤ pr) → (hi = 259374 ∨ pr < (hi + 1) * (hi + 1)) → ∃ v, g_X0_startRoot_39 f pr lo hi i M = some (v, M) ∧ SQ pr v := by
  intro n
  induction n with
  | zero =>
    intro i f lo hi hi6 hf h1 h2 h3 h4 h5 h6
    obtain ⟨f, rfl⟩ : ∃ g, f = g + 1 := ⟨f - 1, by omega⟩
    have e : g_X0_startRoot_39 (f + 1) pr lo hi i M = g_X0_startRoot_39B (g_X0_startRoot_39 f) pr lo hi i M := rfl
    have e0 : (2 : Int) ^ 0 = 1 := rfl
    rw [e0] at h1
    have : hi = lo := by omega
    subst this
    refine ⟨hi, ?_, ⟨by omega, by omega⟩, h5, h6⟩
    rw [e]
    unfold g_X0_startRoot_39B g_X0_startRoot_96
    rw [if_neg (by omega), if_pos (Int.le_refl _), w32_id (by omega) (by omega)]
  | succ n ih =>
    intro i f lo hi hi6 hf h1 h2 h3 h4 h5 h6
    obtain ⟨f, rfl⟩ : ∃ g, f = g + 1 := ⟨f - 1, by omega⟩
    have e : g_X0_startRoot_39 (f + 1) pr lo hi i M = g_X0_startRoot_39B (g_X0_startRoot_39 f) pr lo hi i M := rfl
    have e0 : (2 : Int) ^ (n + 1) = 2 * 2 ^ n := by rw [Int.pow_succ]; omega
    rw [e0] at h1
    rw [e]
    unfold g_X0_startRoot_39B g_X0_startRoot_67 g_X0_startRoot_90 g_X0_startRoot_96
    rw [if_neg (by omega)]
    by_cases c : hi ≤ lo
    · have : hi = lo := by omega
      subst this
      rw [if_pos c, w32_id (by omega) (by omega)]
      exact ⟨hi, rfl, ⟨by omega, by omega⟩, h5, h6⟩
    · rw [if_neg c, w64_id (x := lo + hi) (by omega) (by omega), w64_id (x := lo + hi + 1) (by omega) (by omega), Int.tdiv_eq_ediv_of_nonneg (by omega), w64_id (x := (lo + hi + 1) / 2) (by omega) (by omega), w32_id (x := (i : Int) + 1) (by omega) (by omega)]
      have hm : lo < (lo + hi + 1) / 2 ∧ (lo + hi + 1) / 2 ≤ hi ∧ (lo + hi + 1) / 2 - 1 - lo < 2 ^ n ∧ hi - (lo + hi + 1) / 2 < 2 ^ n := by omega
      generalize (lo + hi + 1) / 2 = m at *
      have mm := mulr (a := m) (b := m) (A := 259374) (B := 259374) (by omega) (by omega) (by omega) (by omega)
      rw [w64_id (x := m * m) (by omega) (by omega), w64_id (x := m - 1) (by omega) (by omega), show (i : Int) + 1 = ((i + 1 : Nat) : Int) by omega]
      by_cases c2 : pr < m * m
      · rw [if_pos c2]
        exact ih (i + 1) f lo (m - 1) (by omega) (by omega) (by omega) h2 (by omega) (by omega) h5 (Or.inr (by rw [show m - 1 + 1 = m by omega]; exact c2))
      · rw [if_neg c2]
        exact ih (i + 1) f m hi (by omega) (by omega) (by omega) (by omega) (by omega) h4 (Or.inr (by omega)) h6
theorem K_startRoot {a b : Int} (ha : 1 ≤ a ∧ a ≤ 9999) (hb : 1 ≤ b ∧ b ≤ 9999) (M : MZ) : ∃ v, g_X0_startRoot a b M = some (v, M) ∧ SQ (10000000000 * a / b) v := by
  have d := fdiv_r (x := 10000000000 * a) (y := b) (by omega) (by omega)
  unfold g_X0_startRoot g_X0_startRoot_20 g_X0_startRoot_28 g_X0_startRoot_36
  rw [if_pos hb.1, if_neg (by omega), w64_id (x := 10000000000 * a) (by omega) (by omega), Int.tdiv_eq_ediv_of_nonneg (by omega), w64_id (by omega) (by omega), K_rootAt (by omega) (by omega)]
  simp only [bindS]
  rw [K_rootAt (by omega) (by omega)]
  simp only [bindS]
  have e0 : zroots (0 : Int).toNat = 38554 := by decide +kernel
  have e4 : zroots (40 : Int).toNat = 259374 := by decide +kernel
  rw [e0, e4]
  exact K_start_loop M 18 0 100000 38554 259374 (by omega) (by omega) (by omega) (by omega) (by omega) (by omega) (Or.inl rfl) (Or.inl rfl)
theorem K_zoneOf_loop {r : Int} (M : MZ) : ∀ (n i f : Nat), i + n = 39 → n < f → g_X0_zoneOf_2 f r i M = some (((zup r n i : Nat) : Int), M) := by
  intro n
  induction n with
  | zero =>
    intro i f hi hf
    obtain ⟨f, rfl⟩ : ∃ g, f = g + 1 := ⟨f - 1, by omega⟩
    have e : g_X0_zoneOf_2 (f + 1) r i M = g_X0_zoneOf_2B (g_X0_zoneOf_2 f) r i M := rfl
    rw [e]
    unfold g_X0_zoneOf_2B g_X0_zoneOf_26
    rw [w32_id (by omega) (by omega), if_pos (by omega)]
    rfl
  | succ n ih =>
    intro i f hi hf
    obtain ⟨f, rfl⟩ : ∃ g, f = g + 1 := ⟨f - 1, by omega⟩
    have e : g_X0_zoneOf_2 (f + 1) r i M = g_X0_zoneOf_2B (g_X0_zoneOf_2 f) r i M := rfl
    rw [e]
    unfold g_X0_zoneOf_2B g_X0_zoneOf_26 zup
    rw [w32_id (by omega) (by omega), if_neg (by omega), K_rootAt (by omega) (by omega)]
    simp only [bindS]
    have et : zroots ((i : Int) + 1).toNat = rtz ((i + 1 : Nat) : Int) := rfl
    rw [et]
    by_cases c : rtz ((i + 1 : Nat) : Int) ≤ r
    · rw [if_neg (by omega), if_pos c, show (i : Int) + 1 = ((i + 1 : Nat) : Int) by omega]
      exact ih (i + 1) f (by omega) (by omega)
    · rw [if_pos (by omega), if_neg c]
theorem K_zoneOf (r : Int) (M : MZ) : g_X0_zoneOf r M = some (zof r, M) := K_zoneOf_loop M 39 0 100000 (by omega) (by omega)
/-- a pool is opened -/
theorem K_open {h : Nat} (kh : kd h = (3, 12)) {a b : Int} (ha : 1 ≤ a ∧ a ≤ 9999) (hb : 1 ≤ b ∧ b ≤ 9999) (M : MZ) : ∃ M' v, g_X4_open h a b M = some ((), M') ∧ SQ (10000000000 * a / b) v ∧ (∀ x, ¬ (h ≤ x ∧ x ≤ h + 4) → sameH M M' x) ∧ (∀ k, k < 5 → zI M' h k = zI M h k) ∧ zI M' h 5 = v ∧ zI M' h 6 = zof v ∧ zI M' h 7 = 1 ∧ (zI M' (h + 1) 0 = 0 ∧ zI M' (h + 1) 1 = 0) ∧ (zI M' (h + 2) 0 = 0 ∧ zI M' (h + 2) 1 = 0) ∧ zI M' (h + 3) 0 = 0 ∧ zI M' (h + 4) 0 = 0 ∧ (∀ a k, zR M' a k = zR M a k) := by
  obtain ⟨v, e1, e2⟩ := K_startRoot ha hb M
  refine ⟨uI (uI (uI (uI (uI (uI (uI (uI (uI M h 5 v) h 6 (zof v)) (h + 1) 0 0) (h + 1) 1 0) (h + 2) 0 0) (h + 2) 1 0) h 7 1) (h + 3) 0 0) (h + 4) 0 0, v, ?_, e2, ?_, ?_, ?_, ?_, ?_, ?_, ?_, ?_, ?_, fun _ _ => rfl⟩
  · unfold g_X4_open g_X4_open_34 g_X4_open_53
    rw [e1]
    simp only [bindS]
    rw [if_pos kh, zI_at, K_zoneOf]
    simp only [bindS]
    rw [if_pos kh, if_pos kh]
  · intro x hx
    exact ((((((((sameH_uI (by omega)).trans (sameH_uI (by omega))).trans (sameH_uI (by omega))).trans (sameH_uI (by omega))).trans (sameH_uI (by omega))).trans (sameH_uI (by omega))).trans (sameH_uI (by omega))).trans (sameH_uI (by omega))).trans (sameH_uI (by omega))
  · intro k hk
    rw [zI_uI, if_neg (by omega), zI_uI, if_neg (by omega), zI_uI, if_neg (by omega), zI_uI, if_neg (by omega), zI_uI, if_neg (by omega), zI_uI, if_neg (by omega), zI_uI, if_neg (by omega), zI_uI, if_neg (by omega), zI_uI, if_neg (by omega)]
  · rw [zI_uI, if_neg (by omega), zI_uI, if_neg (by omega), zI_uI, if_neg (by omega), zI_uI, if_neg (by omega), zI_uI, if_neg (by omega), zI_uI, if_neg (by omega), zI_uI, if_neg (by omega), zI_uI, if_neg (by omega), zI_at]
  · rw [zI_uI, if_neg (by omega), zI_uI, if_neg (by omega), zI_uI, if_neg (by omega), zI_uI, if_neg (by omega), zI_uI, if_neg (by omega), zI_uI, if_neg (by omega), zI_uI, if_neg (by omega), zI_at]
  · rw [zI_uI, if_neg (by omega), zI_uI, if_neg (by omega), zI_at]
  · refine ⟨?_, ?_⟩
    · rw [zI_uI, if_neg (by omega), zI_uI, if_neg (by omega), zI_uI, if_neg (by omega), zI_uI, if_neg (by omega), zI_uI, if_neg (by omega), zI_uI, if_neg (by omega), zI_at]
    · rw [zI_uI, if_neg (by omega), zI_uI, if_neg (by omega), zI_uI, if_neg (by omega), zI_uI, if_neg (by omega), zI_uI, if_neg (by omega), zI_at]
  · refine ⟨?_, ?_⟩
    · rw [zI_uI, if_neg (by omega), zI_uI, if_neg (by omega), zI_uI, if_neg (by omega), zI_uI, if_neg (by omega), zI_at]
    · rw [zI_uI, if_neg (by omega), zI_uI, if_neg (by omega), zI_uI, if_neg (by omega), zI_at]
  · rw [zI_uI, if_neg (by omega), zI_at]
  · exact zI_at _ _ _ _
