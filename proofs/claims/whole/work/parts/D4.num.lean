/-! numbers along the tape -/
def nv (B : Nat → Int) (j : Nat) : Nat → Int
  | 0 => 0
  | k + 1 => if k < 7 then w32 (w32 (w32 (nv B j k * 10) + B (j + k)) - 48) else nv B j k
def dgE (B : Nat → Int) : Nat → Nat → Nat
  | 0, i => i
  | d + 1, i => if 48 ≤ B i ∧ B i ≤ 57 then dgE B d (i + 1) else i
theorem dgE_le (B : Nat → Int) : ∀ d i, i ≤ dgE B d i ∧ dgE B d i ≤ i + d := by
  intro d
  induction d with
  | zero => intro i; exact ⟨Nat.le_refl _, Nat.le_refl _⟩
  | succ d ih =>
    intro i
    have := ih (i + 1)
    unfold dgE
    split <;> omega
section NU
variable {n : Nat} {B : Nat → Int}
theorem K_num_loop (b : BO n B) {j : Nat} (lo hi : Int) : ∀ (d i f : Nat) (M : MZ), i + d = n → d < f → TC n B M → zI M 2 5 = i → j ≤ i → zI M 2 2 = nv B j (i - j) → ∃ M', g_X9_readNumber_15 f lo hi j M = g_X9_readNumber_94 lo hi j M' ∧ zI M' 2 5 = dgE B d i ∧ zI M' 2 2 = nv B j (dgE B d i - j) ∧ CF M M' := by
  intro d
  induction d with
  | zero =>
    intro i f M hin hf h h5 hj h2
    obtain ⟨f, rfl⟩ : ∃ g, f = g + 1 := ⟨f - 1, by omega⟩
    have e : g_X9_readNumber_15 (f + 1) lo hi j M = g_X9_readNumber_15B (g_X9_readNumber_15 f) lo hi j M := rfl
    refine ⟨M, ?_, h5, h2, CF.rfl⟩
    rw [e]
    unfold g_X9_readNumber_15B
    rw [h.1, h5, if_pos (by omega)]
  | succ d ih =>
    intro i f M hin hf h h5 hj h2
    obtain ⟨f, rfl⟩ : ∃ g, f = g + 1 := ⟨f - 1, by omega⟩
    have hb := b.1
    have e : g_X9_readNumber_15 (f + 1) lo hi j M = g_X9_readNumber_15B (g_X9_readNumber_15 f) lo hi j M := rfl
    rw [e]
    unfold g_X9_readNumber_15B g_X9_readNumber_78
    rw [h.1, h5, if_neg (by omega), K_byteAt b h]
    simp only [bindS]
    rw [K_isDigit]
    simp only [bindS, bI_0]
    by_cases c : 48 ≤ B i ∧ B i ≤ 57
    · have es : dgE B (d + 1) i = dgE B d (i + 1) := if_pos c
      rw [if_neg (fun q => q c), es, h5, w32_id (x := (i : Int) - j) (by omega) (by omega)]
      have go : ∀ v : Int, v = nv B j (i + 1 - j) → ∃ M', g_X9_readNumber_15 f lo hi j (uI (uI M 2 2 v) 2 5 (w32 (zI (uI M 2 2 v) 2 5 + 1))) = g_X9_readNumber_94 lo hi j M' ∧ zI M' 2 5 = dgE B d (i + 1) ∧ zI M' 2 2 = nv B j (dgE B d (i + 1) - j) ∧ CF M M' := fun v hv => by
        have e5 : zI (uI M 2 2 v) 2 5 = i := by rw [zI_uI, if_neg (by omega)]; exact h5
        rw [e5, w32_id (by omega) (by omega)]
        have cf : CF M (uI (uI M 2 2 v) 2 5 ((i : Int) + 1)) := (CF_u (by omega)).trans (CF_u (by omega))
        obtain ⟨M', a1, a2, a3, a4⟩ := ih (i + 1) f _ (by omega) (by omega) (h.mv cf) (zI_at _ _ _ _) (by omega) (by rw [zI_uI, if_neg (by omega), zI_at]; exact hv)
        exact ⟨M', a1, a2, a3, cf.trans a4⟩
      have en : i + 1 - j = (i - j) + 1 := by omega
      by_cases c7 : 7 ≤ (i : Int) - j
      · rw [if_pos c7]
        refine go _ ?_
        rw [en, h2]
        unfold nv
        rw [if_neg (by omega)]
        cases i - j <;> rfl
      · rw [if_neg c7, K_byteAt b h]
        simp only [bindS]
        refine go _ ?_
        rw [en, h2]
        have : nv B j (i - j + 1) = if i - j < 7 then w32 (w32 (w32 (nv B j (i - j) * 10) + B (j + (i - j))) - 48) else nv B j (i - j) := rfl
        rw [this, if_pos (by omega), show j + (i - j) = i by omega]
    · have es : dgE B (d + 1) i = i := if_neg c
      rw [if_pos c, es]
      exact ⟨M, rfl, h5, h2, CF.rfl⟩
theorem R_num_loop (b : BO n B) {j : Nat} (lo hi : Int) : ∀ (d i f : Nat) (M : MZ), i + d = n → d < f → TR n B M → zI M 20 9 = i → j ≤ i → zI M 20 11 = nv B j (i - j) → ∃ M', g_X12_reads_30 f lo hi j M = (if 7 < w32 (zI M' 20 9 - j) then g_X12_reads_117 j M' else ((g_X12_isIn (zI M' 20 11) lo hi M').bind fun q => if q.1 = 0 then g_X12_reads_117 j q.2 else g_X12_reads_126 q.2)) ∧ zI M' 20 9 = dgE B d i ∧ zI M' 20 11 = nv B j (dgE B d i - j) ∧ RF M M' := by
  have stop : ∀ (i f : Nat) (M : MZ), TR n B M → zI M 20 9 = i → ¬ (48 ≤ B i ∧ B i ≤ 57) → g_X12_reads_30 (f + 1) lo hi j M = (if 7 < w32 (zI M 20 9 - j) then g_X12_reads_117 j M else ((g_X12_isIn (zI M 20 11) lo hi M).bind fun q => if q.1 = 0 then g_X12_reads_117 j q.2 else g_X12_reads_126 q.2)) := by
    intro i f M h h5 hc
    have e : g_X12_reads_30 (f + 1) lo hi j M = g_X12_reads_30B (g_X12_reads_30 f) lo hi j M := rfl
    rw [e]
    unfold g_X12_reads_30B
    rw [h5, R_byteAt b h]
    simp only [bindS]
    rw [R_isDigit]
    simp only [bindS, bI_0]
    rw [if_pos hc, h5]
  intro d
  induction d with
  | zero =>
    intro i f M hin hf h h5 hj h2
    obtain ⟨f, rfl⟩ : ∃ g, f = g + 1 := ⟨f - 1, by omega⟩
    have en : B i = -1 := b.2 i (by omega)
    exact ⟨M, stop i f M h h5 (by omega), h5, h2, RF.rfl⟩
  | succ d ih =>
    intro i f M hin hf h h5 hj h2
    obtain ⟨f, rfl⟩ : ∃ g, f = g + 1 := ⟨f - 1, by omega⟩
    have hb := b.1
    by_cases c : 48 ≤ B i ∧ B i ≤ 57
    · have es : dgE B (d + 1) i = dgE B d (i + 1) := if_pos c
      have e : g_X12_reads_30 (f + 1) lo hi j M = g_X12_reads_30B (g_X12_reads_30 f) lo hi j M := rfl
      rw [e, es]
      unfold g_X12_reads_30B g_X12_reads_78
      rw [h5, R_byteAt b h]
      simp only [bindS]
      rw [R_isDigit]
      simp only [bindS, bI_0]
      rw [if_neg (fun q => q c), h5, w32_id (x := (i : Int) - j) (by omega) (by omega)]
      have en : i + 1 - j = (i - j) + 1 := by omega
      by_cases c7 : 7 ≤ (i : Int) - j
      · rw [if_pos c7, w32_id (by omega) (by omega)]
        have rf : RF M (uI M 20 9 ((i : Int) + 1)) := RF_u (by omega)
        obtain ⟨M', a1, a2, a3, a4⟩ := ih (i + 1) f _ (by omega) (by omega) (h.mv rf) (zI_at _ _ _ _) (by omega) (by
          rw [zI_uI, if_neg (by omega), h2, en]
          unfold nv
          rw [if_neg (by omega)]
          cases i - j <;> rfl)
        exact ⟨M', a1, a2, a3, rf.trans a4⟩
      · rw [if_neg c7, R_byteAt b h]
        simp only [bindS]
        have ev : w32 (w32 (w32 (10 * zI M 20 11) + B i) - 48) = nv B j (i + 1 - j) := by
          rw [h2, en]
          have : nv B j (i - j + 1) = if i - j < 7 then w32 (w32 (w32 (nv B j (i - j) * 10) + B (j + (i - j))) - 48) else nv B j (i - j) := rfl
          rw [this, if_pos (by omega), show j + (i - j) = i by omega, Int.mul_comm]
        have e9 : ∀ v : Int, zI (uI M 20 11 v) 20 9 = i := fun v => by rw [zI_uI, if_neg (by omega)]; exact h5
        rw [ev, e9, w32_id (x := (i : Int) + 1) (by omega) (by omega)]
        have rf : ∀ v : Int, RF M (uI (uI M 20 11 v) 20 9 ((i : Int) + 1)) := fun v => (RF_u (by omega)).trans (RF_u (by omega))
        obtain ⟨M', a1, a2, a3, a4⟩ := ih (i + 1) f _ (by omega) (by omega) (h.mv (rf (nv B j (i + 1 - j)))) (zI_at _ _ _ _) (by omega) (by rw [zI_uI, if_neg (by omega), zI_at])
        exact ⟨M', a1, a2, a3, (rf _).trans a4⟩
    · have es : dgE B (d + 1) i = i := if_neg c
      rw [es]
      exact ⟨M, stop i f M h h5 c, h5, h2, RF.rfl⟩
theorem K_n94 (lo hi j : Int) (M : MZ) : g_X9_readNumber_94 lo hi j M = if zI M 2 5 = j then some (0, uI M 2 1 (w32 (w32 (1 + w32 (8 * j)) + 0))) else if 7 < w32 (zI M 2 5 - j) ∨ zI M 2 2 < lo ∨ hi < zI M 2 2 then some (0, uI M 2 1 (w32 (w32 (1 + w32 (8 * j)) + 1))) else some (1, M) := by
  unfold g_X9_readNumber_94 g_X9_readNumber_140 g_X9_readNumber_141 g_X9_readNumber_157 g_X9_readNumber_162 g_X9_blame
  simp only [bindS]
  repeat' split
  all_goals first | rfl | (exfalso; omega) | (exfalso; simp_all; done)
theorem R_n117 (j : Int) (M : MZ) : g_X12_reads_117 j M = some (0, uI M 20 10 (w32 (w32 (1 + w32 (8 * j)) + 1))) := by
  unfold g_X12_reads_117 g_X12_fails g_X12_reads_131
  simp only [bindS]
  repeat' split
  all_goals first | rfl | (exfalso; omega) | (exfalso; simp_all; done)
theorem R_n126 (M : MZ) : g_X12_reads_126 M = some (1, M) := by
  unfold g_X12_reads_126 g_X12_reads_131
  repeat' split
  all_goals first | rfl | (exfalso; omega) | (exfalso; simp_all; done)
theorem R_failb (k j : Int) (M : MZ) : ((g_X12_fails k j M).bind fun q => if q.1 = 0 ∨ q.1 = 1 then some (q.1, q.2) else none) = some (0, uI M 20 10 (w32 (w32 (1 + w32 (8 * j)) + k))) := by
  unfold g_X12_fails
  simp only [bindS]
  repeat' split
  all_goals first | rfl | (exfalso; omega) | (exfalso; simp_all; done)
theorem sim_number (b : BO n B) {i : Nat} {Mc Mr : MZ} (h : SR n B i Mc Mr) (lo hi : Int) : ∃ (fl : Int) (Mc' Mr' : MZ), g_X9_readNumber lo hi Mc = some (fl, Mc') ∧ g_X12_reads lo hi Mr = some (fl, Mr') ∧ CF Mc Mc' ∧ RF Mr Mr' ∧ ((fl = 1 ∧ (∃ j, SR n B j Mc' Mr') ∧ zI Mr' 20 11 = zI Mc' 2 2 ∧ lo ≤ zI Mc' 2 2 ∧ zI Mc' 2 2 ≤ hi) ∨ (fl = 0 ∧ zI Mr' 20 10 = zI Mc' 2 1)) := by
  obtain ⟨j, Mc1, Mr1, a1, a2, a3, a4, a5, a6, a7, a8, a9⟩ := sim_peek b h
  obtain ⟨s1, s2, s3, s4, s5⟩ := a3
  have hb := b.1
  have cf1 : CF Mc1 (uI Mc1 2 2 0) := CF_u (by omega)
  have rf1 : RF Mr1 (uI Mr1 20 11 0) := RF_u (by omega)
  have hd := dgE_le B (n - j) j
  obtain ⟨Mc2, b1, b2, b3, b4⟩ := K_num_loop (j := j) b lo hi (n - j) j 100000 (uI Mc1 2 2 0) (by omega) (by omega) (s1.mv cf1) (by rw [zI_uI, if_neg (by omega)]; exact s3) (Nat.le_refl _) (by rw [zI_at, Nat.sub_self]; rfl)
  obtain ⟨Mr2, c1, c2, c3, c4⟩ := R_num_loop (j := j) b lo hi (n - j) j 100000 (uI Mr1 20 11 0) (by omega) (by omega) (s2.mv rf1) (by rw [zI_uI, if_neg (by omega)]; exact s4) (Nat.le_refl _) (by rw [zI_at, Nat.sub_self]; rfl)
  have hpos : 48 ≤ B j ∧ B j ≤ 57 → j < dgE B (n - j) j := fun q => by
    have hjn : j < n := by
      rcases Nat.lt_or_ge j n with w | w
      · exact w
      · have := b.2 j w
        omega
    obtain ⟨d, hd'⟩ : ∃ d, n - j = d + 1 := ⟨n - j - 1, by omega⟩
    have := dgE_le B d (j + 1)
    rw [hd']
    have es : dgE B (d + 1) j = dgE B d (j + 1) := if_pos q
    rw [es]
    omega
  have hstay : ¬ (48 ≤ B j ∧ B j ≤ 57) → dgE B (n - j) j = j := fun q => by
    cases n - j with
    | zero => rfl
    | succ d => exact if_neg q
  generalize dgE B (n - j) j = e at *
  unfold g_X9_readNumber g_X9_readNumber_10 g_X12_reads g_X12_reads_25
  rw [a1, a2]
  simp only [bindS]
  rw [s3, b1, R_isDigit]
  simp only [bindS, bI_0]
  rw [s4]
  rw [K_n94, b2, b3]
  have CF2 := (a4.trans cf1).trans b4
  have RF2 := (a5.trans rf1).trans c4
  by_cases cd : 48 ≤ B j ∧ B j ≤ 57
  · rw [if_neg (show ¬ ¬ (48 ≤ B j ∧ B j ≤ 57) from fun q => q cd), c1, c2, c3]
    have hej : j < e := hpos cd
    rw [R_isIn]
    simp only [bindS, bI_0, R_n117, R_n126]
    rw [if_neg (show ¬ (e : Int) = j by omega), w32_id (x := (e : Int) - j) (by omega) (by omega)]
    have bad : ∃ (fl : Int) (Mc' Mr' : MZ), (some ((0 : Int), uI Mc2 2 1 (w32 (w32 (1 + w32 (8 * (j : Int))) + 1))) : Option (Int × MZ)) = some (fl, Mc') ∧ (some ((0 : Int), uI Mr2 20 10 (w32 (w32 (1 + w32 (8 * (j : Int))) + 1))) : Option (Int × MZ)) = some (fl, Mr') ∧ CF Mc Mc' ∧ RF Mr Mr' ∧ ((fl = 1 ∧ (∃ j, SR n B j Mc' Mr') ∧ zI Mr' 20 11 = zI Mc' 2 2 ∧ lo ≤ zI Mc' 2 2 ∧ zI Mc' 2 2 ≤ hi) ∨ (fl = 0 ∧ zI Mr' 20 10 = zI Mc' 2 1)) :=
      ⟨0, _, _, rfl, rfl, CF2.trans (CF_u (by omega)), RF2.trans (RF_u (by omega)), Or.inr ⟨rfl, by rw [zI_at, zI_at]⟩⟩
    by_cases c7 : 7 < (e : Int) - j
    · rw [if_pos (Or.inl c7), if_pos c7]
      exact bad
    · rw [if_neg (show ¬ (7 < (e : Int) - j) from c7)]
      by_cases cl : lo ≤ nv B j (e - j) ∧ nv B j (e - j) ≤ hi
      · rw [if_neg (show ¬ (7 < (e : Int) - j ∨ nv B j (e - j) < lo ∨ hi < nv B j (e - j)) by omega), if_neg (fun q => q cl)]
        exact ⟨1, Mc2, Mr2, rfl, rfl, CF2, RF2, Or.inl ⟨rfl, ⟨e, (s1.mv cf1).mv b4, (s2.mv rf1).mv c4, b2, c2, by omega⟩, by rw [b3, c3], by rw [b3]; exact cl.1, by rw [b3]; exact cl.2⟩⟩
      · rw [if_pos (show 7 < (e : Int) - j ∨ nv B j (e - j) < lo ∨ hi < nv B j (e - j) by omega), if_pos cl]
        exact bad
  · have hej : e = j := hstay cd
    rw [if_pos cd, if_pos (show (e : Int) = j by omega), R_failb]
    exact ⟨0, _, _, rfl, rfl, CF2.trans (CF_u (by omega)), a5.trans (RF_u (by omega)), Or.inr ⟨rfl, by rw [zI_at, zI_at]⟩⟩
end NU
