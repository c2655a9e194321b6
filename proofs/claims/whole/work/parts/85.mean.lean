/-! marks: the sum of zones at a time; mean -/
def mkt (N : Nat → Int) (p i : Nat) : Int := N (22 + 23 * p + (7 + 2 * i))
def mks (N : Nat → Int) (p i : Nat) : Int := N (22 + 23 * p + (8 + 2 * i))
def mix (N : Nat → Int) (p : Nat) (t : Int) : Nat → Nat
  | 0 => 0
  | i + 1 => if mkt N p (i + 1) ≤ t then i + 1 else mix N p t i
def mzz (N : Nat → Int) (p i : Nat) : Int := if (i : Int) + 1 < N (22 + 23 * p + 6) then (mks N p (i + 1) - mks N p i) / (mkt N p (i + 1) - mkt N p i) else N (22 + 23 * p + 1)
def sFin (N : Nat → Int) (p : Nat) (t : Int) (i : Nat) : Int := mks N p i + mzz N p i * (t - mkt N p i)
def sAt (N : Nat → Int) (p : Nat) (t : Int) : Int := sFin N p t (mix N p t (N (22 + 23 * p + 6) - 1).toNat)
theorem mix_le (N : Nat → Int) (p : Nat) (t : Int) : ∀ i, mix N p t i ≤ i := by
  intro i
  induction i with
  | zero => exact Nat.le_refl _
  | succ i ih =>
    unfold mix
    split
    · exact Nat.le_refl _
    · omega
theorem mix_t {N : Nat → Int} {p : Nat} {t : Int} (h0 : mkt N p 0 ≤ t) : ∀ i, mkt N p (mix N p t i) ≤ t := by
  intro i
  induction i with
  | zero => exact h0
  | succ i ih =>
    unfold mix
    split
    · assumption
    · exact ih
theorem Mrk.bd {N : Nat → Int} {p : Nat} (h : Mrk N p) : ∀ i : Nat, (i : Int) < N (22 + 23 * p + 6) → 0 ≤ mkt N p i ∧ 0 ≤ mks N p i ∧ mks N p i ≤ 39 * mkt N p i := by
  obtain ⟨h1, h2, h3, h4⟩ := h
  intro i
  induction i with
  | zero => intro _; exact h2
  | succ i ih =>
    intro hi
    have := ih (by omega)
    have := h3 i (by omega)
    unfold mkt mks at *
    omega
theorem Mrk.z {N : Nat → Int} {p : Nat} (h : Mrk N p) (hz : 0 ≤ N (22 + 23 * p + 1) ∧ N (22 + 23 * p + 1) < 40) (i : Nat) : 0 ≤ mzz N p i ∧ mzz N p i ≤ 39 := by
  unfold mzz
  split
  · rename_i c
    have := h.2.2.1 i c
    unfold mkt mks
    refine ⟨Int.ediv_nonneg (by omega) (by omega), ?_⟩
    have : (N (22 + 23 * p + (8 + 2 * (i + 1))) - N (22 + 23 * p + (8 + 2 * i))) / (N (22 + 23 * p + (7 + 2 * (i + 1))) - N (22 + 23 * p + (7 + 2 * i))) < 40 := by
      rw [Int.ediv_lt_iff_lt_mul (by omega)]
      omega
    omega
  · omega
theorem sFin_r {N : Nat → Int} {p : Nat} (h : Mrk N p) (hz : 0 ≤ N (22 + 23 * p + 1) ∧ N (22 + 23 * p + 1) < 40) {t : Int} (ht : t ≤ 9999999) {i : Nat} (hi : (i : Int) < N (22 + 23 * p + 6)) (hm : mkt N p i ≤ t) : (0 ≤ mzz N p i * (t - mkt N p i) ∧ mzz N p i * (t - mkt N p i) ≤ 389999961) ∧ 0 ≤ sFin N p t i ∧ sFin N p t i ≤ 389999961 := by
  have h1 := h.bd i hi
  have h2 := h.z hz i
  have h3 := mulr (a := mzz N p i) (b := t - mkt N p i) (A := 39) (B := t - mkt N p i) h2.1 h2.2 (by omega) (Int.le_refl _)
  unfold sFin
  omega
section ME
variable {M : MZ} {b : Nat} {N T : Nat → Int} {L : List (Nat → Int)} {th pe po : Int}
theorem pad_m (i : Nat) : pad (7 + 2 * i) = 3 ∧ ppl (7 + 2 * i) = i ∧ pad (8 + 2 * i) = 4 ∧ ppl (8 + 2 * i) = i := by
  unfold pad ppl
  refine ⟨?_, ?_, ?_, ?_⟩
  all_goals (repeat' split)
  all_goals omega
theorem K_mt (R : Rep true M b N T L th pe po) {p i : Nat} (hp : p < 5) (hq : (p : Int) < po) (hi : (i : Int) < N (22 + 23 * p + 6)) (h8 : i < 8) : zI M (b + 2 + 2 + 5 * p + 3) i = w32 (mkt N p i) := by
  have h := R.2.2.2.1 p hp hq (7 + 2 * i) (by omega) (Or.inr ⟨rfl, Or.inr (by rw [show (7 + 2 * i - 7) / 2 = i by omega]; exact hi)⟩)
  rw [(pad_m i).1, (pad_m i).2.1] at h
  exact h
theorem K_ms (R : Rep true M b N T L th pe po) {p i : Nat} (hp : p < 5) (hq : (p : Int) < po) (hi : (i : Int) < N (22 + 23 * p + 6)) (h8 : i < 8) : zI M (b + 2 + 2 + 5 * p + 4) i = w32 (mks N p i) := by
  have h := R.2.2.2.1 p hp hq (8 + 2 * i) (by omega) (Or.inr ⟨rfl, Or.inr (by rw [show (8 + 2 * i - 7) / 2 = i by omega]; exact hi)⟩)
  rw [(pad_m i).2.2.1, (pad_m i).2.2.2] at h
  exact h
theorem K_mm (R : Rep true M b N T L th pe po) {p : Nat} (hp : p < 5) (hq : (p : Int) < po) : zI M (b + 2 + 2 + 5 * p) 7 = w32 (N (22 + 23 * p + 6)) := R.2.2.2.1 p hp hq 6 (by omega) (Or.inr ⟨rfl, Or.inl rfl⟩)
theorem K_sumFin (hb : bOK b) (R : Rep true M b N T L th pe po) {p : Nat} (hp : p < 5) (hq : (p : Int) < po) (m : Mrk N p) (hz : 0 ≤ N (22 + 23 * p + 1) ∧ N (22 + 23 * p + 1) < 40) (hN : N 0 ≤ 9999999) {t : Int} (ht : t ≤ 9999999) {i : Nat} (hi : (i : Int) < N (22 + 23 * p + 6)) (hm : mkt N p i ≤ t) : g_X4_sumAt_33 (b + 2 + 2 + 5 * p) t i M = some (sFin N p t i, M) := by
  have hm1 := m.1
  have h1 := m.bd i hi
  have h2 := m.z hz i
  have h3 := sFin_r m hz ht hi hm
  have h4 : mkt N p i ≤ N 0 := m.2.2.2 i hi
  have e3 := K_mt R hp hq hi (by omega)
  have e4 := K_ms R hp hq hi (by omega)
  rw [w32_id (by omega) (by omega)] at e3 e4
  have e7 := K_mm R hp hq
  rw [w32_id (by omega) (by omega)] at e7
  have e6 := K_zone R hp hq
  rw [w32_id (by omega) (by omega)] at e6
  have hend : ∀ z : Int, z = mzz N p i → g_X4_sumAt_114 (b + 2 + 2 + 5 * p) t i z M = some (sFin N p t i, M) := by
    intro z hz
    subst hz
    unfold g_X4_sumAt_114
    unfold sFin at h3 ⊢
    rw [if_pos (kdp hb hp), if_pos (by omega), if_pos (by omega), Int.toNat_natCast, e3, e4, w32_id (x := t - mkt N p i) (by omega) (by omega), w32_id (x := mzz N p i * (t - mkt N p i)) (by omega) (by omega), w32_id (by omega) (by omega)]
  unfold g_X4_sumAt_33 g_X4_sumAt_50
  rw [if_neg (by omega), if_pos (by omega), if_pos (kdp hb hp), if_pos (kdp hb hp), e7, e6, w32_id (x := (i : Int) + 1) (by omega) (by omega)]
  by_cases c : (i : Int) + 1 < N (22 + 23 * p + 6)
  · have h5 := m.bd (i + 1) (by omega)
    have h6 := m.2.2.1 i c
    have h7 : mkt N p (i + 1) ≤ N 0 := m.2.2.2 (i + 1) (by omega)
    have f3 := K_mt R hp hq (i := i + 1) (by omega) (by omega)
    have f4 := K_ms R hp hq (i := i + 1) (by omega) (by omega)
    rw [w32_id (by omega) (by omega)] at f3 f4
    have hz' : mzz N p i = (mks N p (i + 1) - mks N p i) / (mkt N p (i + 1) - mkt N p i) := if_pos c
    have g1 : mkt N p i < mkt N p (i + 1) := h6.1
    have g2 : mks N p i ≤ mks N p (i + 1) := h6.2.1
    rw [if_neg (by omega), if_neg (by omega), if_pos (by omega), if_pos (by omega), show ((i : Int) + 1).toNat = i + 1 by omega, Int.toNat_natCast, f3, e3, w32_id (x := mkt N p (i + 1) - mkt N p i) (by omega) (by omega)]
    unfold g_X4_sumAt_85 g_X4_sumAt_113
    rw [if_pos (by omega), if_pos (kdp hb hp), w32_id (x := (i : Int) + 1) (by omega) (by omega), if_pos (by omega), if_pos (by omega), if_neg (by omega), show ((i : Int) + 1).toNat = i + 1 by omega, Int.toNat_natCast, f4, e4, w32_id (x := mks N p (i + 1) - mks N p i) (by omega) (by omega), Int.tdiv_eq_ediv_of_nonneg (by omega), ← hz', w32_id (by omega) (by omega)]
    exact hend _ rfl
  · rw [if_pos (by omega)]
    exact hend _ (by unfold mzz; rw [if_neg c])
theorem K_sum_loop (hb : bOK b) (R : Rep true M b N T L th pe po) {p : Nat} (hp : p < 5) (hq : (p : Int) < po) (m : Mrk N p) (hz : 0 ≤ N (22 + 23 * p + 1) ∧ N (22 + 23 * p + 1) < 40) (hN : N 0 ≤ 9999999) {t : Int} (ht : t ≤ 9999999) (h0 : mkt N p 0 ≤ t) : ∀ (i f : Nat), (i : Int) < N (22 + 23 * p + 6) → i < f → g_X4_sumAt_7 f (b + 2 + 2 + 5 * p) t i M = some (sFin N p t (mix N p t i), M) := by
  have hm1 := m.1
  intro i
  induction i with
  | zero =>
    intro f hi hf
    obtain ⟨f, rfl⟩ : ∃ g, f = g + 1 := ⟨f - 1, by omega⟩
    have e : g_X4_sumAt_7 (f + 1) (b + 2 + 2 + 5 * p) t ((0 : Nat) : Int) M = g_X4_sumAt_7B (g_X4_sumAt_7 f) (b + 2 + 2 + 5 * p) t ((0 : Nat) : Int) M := rfl
    rw [e]
    unfold g_X4_sumAt_7B
    rw [if_pos (by omega)]
    exact K_sumFin hb R hp hq m hz hN ht hi h0
  | succ i ih =>
    intro f hi hf
    obtain ⟨f, rfl⟩ : ∃ g, f = g + 1 := ⟨f - 1, by omega⟩
    have e : g_X4_sumAt_7 (f + 1) (b + 2 + 2 + 5 * p) t ((i + 1 : Nat) : Int) M = g_X4_sumAt_7B (g_X4_sumAt_7 f) (b + 2 + 2 + 5 * p) t ((i + 1 : Nat) : Int) M := rfl
    have h4 : mkt N p (i + 1) ≤ N 0 := m.2.2.2 (i + 1) hi
    have h5 := m.bd (i + 1) hi
    have e3 := K_mt R hp hq hi (by omega)
    rw [w32_id (by omega) (by omega)] at e3
    rw [e]
    unfold g_X4_sumAt_7B
    rw [if_neg (by omega), if_neg (by omega), if_pos (kdp hb hp), if_pos (by omega), Int.toNat_natCast, e3]
    unfold mix
    by_cases c : mkt N p (i + 1) ≤ t
    · rw [if_pos c, if_pos c]
      exact K_sumFin hb R hp hq m hz hN ht hi c
    · rw [if_neg c, if_neg c, w32_id (by omega) (by omega), show ((i + 1 : Nat) : Int) + -1 = (i : Int) by omega]
      exact ih f (by omega) (by omega)
theorem K_sumAt (hb : bOK b) (R : Rep true M b N T L th pe po) {p : Nat} (hp : p < 5) (hq : (p : Int) < po) (m : Mrk N p) (hz : 0 ≤ N (22 + 23 * p + 1) ∧ N (22 + 23 * p + 1) < 40) (hN : N 0 ≤ 9999999) {t : Int} (ht : t ≤ 9999999) (h0 : mkt N p 0 ≤ t) : g_X4_sumAt (b + 2 + 2 + 5 * p) t M = some (sAt N p t, M) := by
  have hm1 := m.1
  have e7 := K_mm R hp hq
  rw [w32_id (by omega) (by omega)] at e7
  unfold g_X4_sumAt sAt
  rw [if_pos (kdp hb hp), e7, w32_id (by omega) (by omega)]
  have := K_sum_loop hb R hp hq m hz hN ht h0 (N (22 + 23 * p + 6) - 1).toNat 100000 (by omega) (by omega)
  rw [show (((N (22 + 23 * p + 6) - 1).toNat : Nat) : Int) = N (22 + 23 * p + 6) - 1 by omega] at this
  exact this
theorem R_markOf (R : RepR M N T L th pe po) {p i : Nat} (hp : p < 5) (h8 : i < 8) : g_X12_markOf p i 0 M = some (mkt N p i, M) ∧ g_X12_markOf p i 1 M = some (mks N p i, M) := by
  unfold g_X12_markOf
  rw [w32_id (x := 2 * (i : Int)) (by omega) (by omega), w32_id (x := 7 + 2 * (i : Int)) (by omega) (by omega), w32_id (x := 7 + 2 * (i : Int) + 0) (by omega) (by omega), w32_id (x := 7 + 2 * (i : Int) + 1) (by omega) (by omega), R_pool R hp (by omega) (by omega), R_pool R hp (by omega) (by omega)]
  simp only [bindS]
  rw [show (7 + 2 * (i : Int) + 0).toNat = 7 + 2 * i by omega, show (7 + 2 * (i : Int) + 1).toNat = 8 + 2 * i by omega]
  exact ⟨rfl, rfl⟩
theorem R_marks (R : RepR M N T L th pe po) {p : Nat} (hp : p < 5) (h : 0 ≤ N (22 + 23 * p + 6) ∧ N (22 + 23 * p + 6) ≤ 8) : g_X12_marks p M = some (N (22 + 23 * p + 6), M) := by
  unfold g_X12_marks
  rw [R_pool R hp (by omega) (by omega)]
  simp only [bindS]
  rw [show (6 : Int).toNat = 6 from rfl, w32_id (by omega) (by omega)]
theorem R_sumFin (R : RepR M N T L th pe po) {p : Nat} (hp : p < 5) (m : Mrk N p) (hz : 0 ≤ N (22 + 23 * p + 1) ∧ N (22 + 23 * p + 1) < 40) (hN : N 0 ≤ 9999999) {t : Int} (ht : t ≤ 9999999) {i : Nat} (hi : (i : Int) < N (22 + 23 * p + 6)) (hm : mkt N p i ≤ t) : g_X12_sumAt_36 p t i (N (22 + 23 * p + 1)) M = some (sFin N p t i, M) := by
  have hm1 := m.1
  have h1 := m.bd i hi
  have h2 := m.z hz i
  have h3 := sFin_r m hz ht hi hm
  have h4 : mkt N p i ≤ N 0 := m.2.2.2 i hi
  obtain ⟨o0, o1⟩ := R_markOf R hp (i := i) (by omega)
  have hend : ∀ z : Int, z = mzz N p i → g_X12_sumAt_89 p t i z M = some (sFin N p t i, M) := by
    intro z hz
    subst hz
    unfold g_X12_sumAt_89
    rw [o1]
    simp only [bindS]
    rw [o0]
    simp only [bindS]
    unfold sFin at h3 ⊢
    rw [w64_id (x := t - mkt N p i) (by omega) (by omega), w64_id (x := mzz N p i * (t - mkt N p i)) (by omega) (by omega), w64_id (by omega) (by omega)]
  unfold g_X12_sumAt_36
  rw [R_marks R hp (by omega)]
  simp only [bindS]
  rw [w32_id (by omega) (by omega)]
  by_cases c : (i : Int) + 1 < N (22 + 23 * p + 6)
  · have h5 := m.bd (i + 1) (by omega)
    have h6 := m.2.2.1 i c
    have h7 : mkt N p (i + 1) ≤ N 0 := m.2.2.2 (i + 1) (by omega)
    obtain ⟨r0, r1⟩ := R_markOf R hp (i := i + 1) (by omega)
    have hz' : mzz N p i = (mks N p (i + 1) - mks N p i) / (mkt N p (i + 1) - mkt N p i) := if_pos c
    have g1 : mkt N p i < mkt N p (i + 1) := h6.1
    have g2 : mks N p i ≤ mks N p (i + 1) := h6.2.1
    rw [if_neg (by omega), w32_id (x := (i : Int) + 1) (by omega) (by omega), show (i : Int) + 1 = ((i + 1 : Nat) : Int) by omega, r1]
    simp only [bindS]
    rw [o1]
    simp only [bindS]
    rw [r0]
    simp only [bindS]
    rw [o0]
    simp only [bindS]
    rw [w64_id (x := mkt N p (i + 1) - mkt N p i) (by omega) (by omega), if_neg (by omega), w64_id (x := mks N p (i + 1) - mks N p i) (by omega) (by omega), Int.tdiv_eq_ediv_of_nonneg (by omega), ← hz', w64_id (by omega) (by omega)]
    exact hend _ rfl
  · rw [if_pos (by omega)]
    exact hend _ (by unfold mzz; rw [if_neg c])
theorem R_sum_loop (R : RepR M N T L th pe po) {p : Nat} (hp : p < 5) (m : Mrk N p) (hz : 0 ≤ N (22 + 23 * p + 1) ∧ N (22 + 23 * p + 1) < 40) (hN : N 0 ≤ 9999999) {t : Int} (ht : t ≤ 9999999) (h0 : mkt N p 0 ≤ t) : ∀ (i f : Nat), (i : Int) < N (22 + 23 * p + 6) → i < f → g_X12_sumAt_9 f p t i M = some (sFin N p t (mix N p t i), M) := by
  have hm1 := m.1
  intro i
  induction i with
  | zero =>
    intro f hi hf
    obtain ⟨f, rfl⟩ : ∃ g, f = g + 1 := ⟨f - 1, by omega⟩
    have e : g_X12_sumAt_9 (f + 1) p t ((0 : Nat) : Int) M = g_X12_sumAt_9B (g_X12_sumAt_9 f) p t ((0 : Nat) : Int) M := rfl
    rw [e]
    unfold g_X12_sumAt_9B
    rw [(R_markOf R hp (i := 0) (by omega)).1]
    simp only [bindS]
    rw [if_pos h0, R_zone R hp hz]
    simp only [bindS]
    exact R_sumFin R hp m hz hN ht hi h0
  | succ i ih =>
    intro f hi hf
    obtain ⟨f, rfl⟩ : ∃ g, f = g + 1 := ⟨f - 1, by omega⟩
    have e : g_X12_sumAt_9 (f + 1) p t ((i + 1 : Nat) : Int) M = g_X12_sumAt_9B (g_X12_sumAt_9 f) p t ((i + 1 : Nat) : Int) M := rfl
    rw [e]
    unfold g_X12_sumAt_9B
    rw [(R_markOf R hp (i := i + 1) (by omega)).1]
    simp only [bindS]
    unfold mix
    by_cases c : mkt N p (i + 1) ≤ t
    · rw [if_pos c, if_pos c, R_zone R hp hz]
      simp only [bindS]
      exact R_sumFin R hp m hz hN ht hi c
    · rw [if_neg c, if_neg c, w32_id (by omega) (by omega), show ((i + 1 : Nat) : Int) + -1 = (i : Int) by omega]
      exact ih f (by omega) (by omega)
theorem R_sumAt (R : RepR M N T L th pe po) {p : Nat} (hp : p < 5) (m : Mrk N p) (hz : 0 ≤ N (22 + 23 * p + 1) ∧ N (22 + 23 * p + 1) < 40) (hN : N 0 ≤ 9999999) {t : Int} (ht : t ≤ 9999999) (h0 : mkt N p 0 ≤ t) : g_X12_sumAt p t M = some (sAt N p t, M) := by
  have hm1 := m.1
  unfold g_X12_sumAt sAt
  rw [R_marks R hp (by omega)]
  simp only [bindS]
  rw [w32_id (by omega) (by omega)]
  have := R_sum_loop R hp m hz hN ht h0 (N (22 + 23 * p + 6) - 1).toNat 100000 (by omega) (by omega)
  rw [show (((N (22 + 23 * p + 6) - 1).toNat : Nat) : Int) = N (22 + 23 * p + 6) - 1 by omega] at this
  exact this
theorem sAt_r {p : Nat} (m : Mrk N p) (hz : 0 ≤ N (22 + 23 * p + 1) ∧ N (22 + 23 * p + 1) < 40) {t : Int} (ht : t ≤ 9999999) (h0 : mkt N p 0 ≤ t) : 0 ≤ sAt N p t ∧ sAt N p t ≤ 389999961 := by
  have hm1 := m.1
  have := mix_le N p t (N (22 + 23 * p + 6) - 1).toNat
  exact (sFin_r m hz ht (i := mix N p t (N (22 + 23 * p + 6) - 1).toNat) (by omega) (mix_t h0 _)).2
end ME
theorem q_mean {M : MZ} (h : IV M) (p n : Int) (hn : -2147483648 ≤ n ∧ n ≤ 2147483647) : ∃ r, g_X11_mean p n M = some (r, M) ∧ g_X12_mean p n M = some (r, M) := by
  obtain ⟨N, T, L, th, pe, po, R, RR, W, -, hk, ht, -, -, -⟩ := h
  have hz := W.1.r
  unfold g_X11_mean g_X11_mean_18 g_X12_mean g_X12_mean_13
  rw [R_isPool, RR.1.2.2]
  simp only [bindS, bI_0]
  by_cases hp : 0 ≤ p ∧ p < po
  · obtain ⟨p, rfl⟩ := zR_nat hp.1
    have h5 : p < 5 := by omega
    have hq := hp.2
    have m := hk p h5 hq
    have hzn := (W.2.1 p h5 hq).2.1
    have h1 := m.1
    have m0 := m.bd 0 (by omega)
    have m0' : mkt N p 0 ≤ N 0 := m.2.2.2 0 (by omega)
    rw [K_poolAt_y b78 h5 (by rw [R.1.2.2.1]; exact hq), if_neg (fun q => q hp)]
    simp only [bindS]
    rw [if_neg (by omega)]
    by_cases c : 1 ≤ n
    · rw [if_pos c, if_pos c]
      unfold g_X11_mean_31 g_X12_mean_25
      have e0 : zI M (78 + 2 + 2 + 5 * p + 3) 0 = mkt N p 0 := by rw [K_mt R h5 hq (by omega) (by omega), w32_id (by omega) (by omega)]
      have f0 : g_X12_markOf p 0 0 M = some (mkt N p 0, M) := (R_markOf RR h5 (i := 0) (by omega)).1
      have ef : g_X4_firstMark (78 + 2 + 2 + 5 * p) M = some (mkt N p 0, M) := by
        unfold g_X4_firstMark
        rw [if_pos (kdp b78 h5), e0]
      rw [if_pos (kdp b78 h5), ef, f0]
      simp only [bindS]
      rw [R.1.2.2.2.2.1, RR.2.2.1 0 (by omega), w32_id (x := N 0 - n) (by omega) (by omega), w64_id (x := N 0 - n) (by omega) (by omega)]
      by_cases c2 : mkt N p 0 ≤ N 0 - n
      · have r1 := sAt_r m hzn (t := N 0) ht.2 m0'
        have r2 := sAt_r m hzn (t := N 0 - n) (by omega) c2
        rw [if_pos c2, if_pos c2, K_sumAt b78 R h5 hq m hzn ht.2 ht.2 m0', R_sumAt RR h5 m hzn ht.2 ht.2 m0']
        simp only [bindS]
        rw [K_sumAt b78 R h5 hq m hzn ht.2 (t := N 0 - n) (by omega) c2, R_sumAt RR h5 m hzn ht.2 (t := N 0 - n) (by omega) c2]
        simp only [bindS]
        rw [if_neg (by omega), if_neg (by omega), w32_id (x := sAt N p (N 0) - sAt N p (N 0 - n)) (by omega) (by omega), w64_id (x := sAt N p (N 0) - sAt N p (N 0 - n)) (by omega) (by omega), w32_w64]
        exact ⟨_, rfl, rfl⟩
      · rw [if_neg c2, if_neg c2]
        exact ⟨_, rfl, rfl⟩
    · rw [if_neg c, if_neg c]
      exact ⟨_, rfl, rfl⟩
  · rw [K_poolAt_n b78 (by rw [R.1.2.2.1]; exact hp), if_pos hp]
    simp only [bindS]
    rw [if_pos trivial]
    exact ⟨_, rfl, rfl⟩
theorem ok_mean (a b : Int32) : SO INV (f_X11_mean a b) (f_X12_mean a b) := SO_q (fun _ => l_X11_mean rfl rfl rfl) (fun _ => l_X12_mean rfl rfl rfl) (fun _ h => q_mean h _ _ (tI_r b))
