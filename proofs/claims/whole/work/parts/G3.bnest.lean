/-! the text of a bundle: brackets -/
def NS (op af kn : Nat → Int) (sz dp : Nat) : Prop :=
  (∀ j, j < dp → 0 ≤ op j ∧ op j < sz ∧ 5 ≤ kn (op j).toNat) ∧ (∀ j, j + 1 < dp → op j < op (j + 1)) ∧
  (∀ i : Nat, i < sz → (∀ j, j < dp → op j ≠ i) → ((i : Int) < af i ∧ af i ≤ sz) ∧ (5 ≤ kn i → (i : Int) + 2 ≤ af i) ∧ ∀ i' : Nat, i < i' → (i' : Int) < af i → af i' ≤ af i ∧ ∀ j, j < dp → op j ≠ i') ∧
  (∃ lv : Nat → Nat, (∀ j, j < dp → lv (op j).toNat = j) ∧ (∀ i, i < sz → 5 ≤ kn i → lv i ≤ 3) ∧ ∀ i i' : Nat, i < i' → i' < sz → 5 ≤ kn i → 5 ≤ kn i' → ((∃ j, j < dp ∧ op j = (i : Int)) ∨ (i' : Int) < af i) → lv i < lv i')
theorem NS_lt {op af kn : Nat → Int} {sz dp : Nat} (h : NS op af kn sz dp) : ∀ d j : Nat, j + d + 1 < dp → op j < op (j + d + 1) := by
  intro d
  induction d with
  | zero => intro j hj; exact h.2.1 j hj
  | succ d ih =>
    intro j hj
    have h1 := ih j (by omega)
    have h2 := h.2.1 (j + d + 1) (by omega)
    rw [show j + (d + 1) + 1 = j + d + 1 + 1 by omega]
    omega
theorem NS_step {op af kn op' af' kn' : Nat → Int} {sz dp : Nat} (h : NS op af kn sz dp) (ho : ∀ j, j < dp → op' j = op j) (ha : ∀ i, i < sz → af' i = af i) (hk : ∀ i, i < sz → kn' i = kn i) (a1 : af' sz = (sz : Int) + 1) (k1 : kn' sz ≤ 4) : NS op' af' kn' (sz + 1) dp ∧ ∀ j, j < dp → op' j + 1 < ((sz + 1 : Nat) : Int) := by
  obtain ⟨h1, h2, h3, lv, v1, v2, v3⟩ := h
  refine ⟨⟨fun j hj => ?_, fun j hj => ?_, fun i hi hno => ?_, lv, fun j hj => by rw [ho j hj]; exact v1 j hj, fun i hi h5 => ?_, fun i i' g1 g2 g3 g4 g5 => ?_⟩, fun j hj => ?_⟩
  · have := h1 j hj
    rw [ho j hj, hk _ (by omega)]
    exact ⟨this.1, by omega, this.2.2⟩
  · rw [ho j (by omega), ho (j + 1) hj]
    exact h2 j hj
  · by_cases e : i = sz
    · subst e
      rw [a1]
      exact ⟨by omega, fun q => by omega, fun i' g1 g2 => by omega⟩
    · have hi' : i < sz := by omega
      have := h3 i hi' (fun j hj => by rw [← ho j hj]; exact hno j hj)
      rw [ha i hi', hk i hi']
      refine ⟨by omega, this.2.1, fun i' g1 g2 => ?_⟩
      have hb := this.1.2
      have hlt : i' < sz := by omega
      rw [ha i' hlt]
      have g3 := this.2.2 i' g1 g2
      exact ⟨g3.1, fun j hj => by rw [ho j hj]; exact g3.2 j hj⟩
  · have e : i ≠ sz := fun e => by rw [e] at h5; omega
    rw [hk i (by omega)] at h5
    exact v2 i (by omega) h5
  · have e : i' ≠ sz := fun e => by rw [e] at g4; omega
    rw [hk i (by omega)] at g3
    rw [hk i' (by omega)] at g4
    rw [ha i (by omega)] at g5
    refine v3 i i' g1 (by omega) g3 g4 (g5.imp (fun q => ?_) id)
    obtain ⟨j, q1, q2⟩ := q
    exact ⟨j, q1, by rw [← ho j q1]; exact q2⟩
  · have := h1 j hj
    rw [ho j hj]
    omega
theorem NS_open {op af kn op' af' kn' : Nat → Int} {sz dp : Nat} (h : NS op af kn sz dp) (ho : ∀ j, j < dp → op' j = op j) (ha : ∀ i, i < sz → af' i = af i) (hk : ∀ i, i < sz → kn' i = kn i) (o1 : op' dp = (sz : Int)) (k1 : 5 ≤ kn' sz) (hd3 : dp ≤ 3) : NS op' af' kn' (sz + 1) (dp + 1) := by
  obtain ⟨h1, h2, h3, lv, v1, v2, v3⟩ := h
  refine ⟨fun j hj => ?_, fun j hj => ?_, fun i hi hno => ?_, fun i => if i = sz then dp else lv i, fun j hj => ?_, fun i hi h5 => ?_, fun i i' g1 g2 g3 g4 g5 => ?_⟩
  · by_cases e : j = dp
    · rw [e, o1, Int.toNat_natCast]
      exact ⟨by omega, by omega, k1⟩
    · have := h1 j (by omega)
      rw [ho j (by omega), hk _ (by omega)]
      exact ⟨this.1, by omega, this.2.2⟩
  · rw [ho j (by omega)]
    by_cases e : j + 1 = dp
    · rw [e, o1]
      have := h1 j (by omega)
      omega
    · rw [ho (j + 1) (by omega)]
      exact h2 j (by omega)
  · have e : i ≠ sz := fun e => hno dp (by omega) (by rw [o1, e])
    have hi' : i < sz := by omega
    have := h3 i hi' (fun j hj => by rw [← ho j hj]; exact hno j (by omega))
    rw [ha i hi', hk i hi']
    refine ⟨by omega, this.2.1, fun i' g1 g2 => ?_⟩
    have hb := this.1.2
    have hlt : i' < sz := by omega
    rw [ha i' hlt]
    have g3 := this.2.2 i' g1 g2
    refine ⟨g3.1, fun j hj => ?_⟩
    by_cases ej : j = dp
    · rw [ej, o1]; omega
    · rw [ho j (by omega)]; exact g3.2 j (by omega)
  · by_cases e : j = dp
    · rw [e, o1, Int.toNat_natCast]
      show (if sz = sz then dp else lv sz) = dp
      rw [if_pos rfl]
    · have := h1 j (by omega)
      rw [ho j (by omega)]
      show (if (op j).toNat = sz then dp else lv (op j).toNat) = j
      rw [if_neg (by omega)]
      exact v1 j (by omega)
  · show (if i = sz then dp else lv i) ≤ 3
    by_cases e : i = sz
    · rw [if_pos e]; exact hd3
    · rw [if_neg e]
      rw [hk i (by omega)] at h5
      exact v2 i (by omega) h5
  · show (if i = sz then dp else lv i) < (if i' = sz then dp else lv i')
    rw [if_neg (show i ≠ sz by omega)]
    rw [hk i (by omega)] at g3
    rw [ha i (by omega)] at g5
    have old : (∃ j, j < dp + 1 ∧ op' j = (i : Int)) → ∃ j, j < dp ∧ op j = (i : Int) := by
      rintro ⟨j, q1, q2⟩
      by_cases ej : j = dp
      · rw [ej, o1] at q2; omega
      · exact ⟨j, by omega, by rw [← ho j (by omega)]; exact q2⟩
    by_cases e : i' = sz
    · rw [if_pos e]
      have op1 : ∃ j, j < dp ∧ op j = (i : Int) := by
        rcases g5 with q | q
        · exact old q
        · by_cases c : ∃ j, j < dp ∧ op j = (i : Int)
          · exact c
          · have := (h3 i (by omega) (fun j hj q => c ⟨j, hj, q⟩)).1.2
            omega
      obtain ⟨j, q1, q2⟩ := op1
      have := v1 j q1
      rw [q2, Int.toNat_natCast] at this
      omega
    · rw [if_neg e]
      rw [hk i' (by omega)] at g4
      exact v3 i i' g1 (by omega) g3 g4 (g5.imp old id)
theorem NS_close {op af kn op' af' kn' : Nat → Int} {sz dp o : Nat} (h : NS op af kn sz (dp + 1)) (hb : ∀ j, j < dp + 1 → op j + 1 < (sz : Int)) (eo : op dp = (o : Int)) (ho : ∀ j, j < dp → op' j = op j) (ha : ∀ i, i ≠ o → af' i = af i) (a1 : af' o = (sz : Int)) (hk : ∀ i, kn' i = kn i) : NS op' af' kn' sz dp := by
  have hlt := NS_lt h
  obtain ⟨h1, h2, h3, lv, v1, v2, v3⟩ := h
  have hob := hb dp (by omega)
  -- the open ones below
  have below : ∀ j, j < dp → op j < (o : Int) := fun j hj => by
    have := hlt (dp - j - 1) j (by omega)
    rw [show j + (dp - j - 1) + 1 = dp by omega, eo] at this
    exact this
  refine ⟨fun j hj => ?_, fun j hj => ?_, fun i hi hno => ?_, lv, fun j hj => by rw [ho j hj]; exact v1 j (by omega), fun i hi h5 => by rw [hk] at h5; exact v2 i hi h5, fun i i' g1 g2 g3 g4 g5 => ?_⟩
  · have := h1 j (by omega)
    rw [ho j hj, hk]
    exact this
  · rw [ho j (by omega), ho (j + 1) hj]
    exact h2 j (by omega)
  · rw [hk]
    by_cases e : i = o
    · subst e
      rw [a1]
      refine ⟨by omega, fun _ => by omega, fun i' g1 g2 => ?_⟩
      have hne : ∀ j, j < dp + 1 → op j ≠ (i' : Int) := fun j hj => by
        by_cases ej : j = dp
        · rw [ej, eo]; omega
        · have := below j (by omega); omega
      rw [ha i' (by omega)]
      exact ⟨(h3 i' (by omega) hne).1.2, fun j hj => by rw [ho j hj]; exact hne j (by omega)⟩
    · have hno' : ∀ j, j < dp + 1 → op j ≠ (i : Int) := fun j hj => by
        by_cases ej : j = dp
        · rw [ej, eo]; omega
        · rw [← ho j (by omega)]; exact hno j (by omega)
      have := h3 i hi hno'
      rw [ha i e]
      refine ⟨this.1, this.2.1, fun i' g1 g2 => ?_⟩
      have g3 := this.2.2 i' g1 g2
      have e' : i' ≠ o := fun e' => g3.2 dp (by omega) (by rw [eo, e'])
      rw [ha i' e']
      exact ⟨g3.1, fun j hj => by rw [ho j hj]; exact g3.2 j (by omega)⟩
  · rw [hk] at g3 g4
    refine v3 i i' g1 g2 g3 g4 ?_
    rcases g5 with ⟨j, q1, q2⟩ | q
    · exact Or.inl ⟨j, by omega, by rw [← ho j q1]; exact q2⟩
    · by_cases e : i = o
      · exact Or.inl ⟨dp, by omega, by rw [eo, e]⟩
      · rw [ha i e] at q
        exact Or.inr q
/-- what the brackets' text leaves alone -/
def COp (M M' : MZ) : Prop := (∀ x, x ≠ 2 → x ≠ 6 → x ≠ 8 → sameH M M' x) ∧ zI M' 2 0 = zI M 2 0 ∧ zI M' 6 0 = zI M 6 0
def ROp (M M' : MZ) : Prop := (∀ x, x ≠ 20 → x ≠ 34 → sameH M M' x) ∧ (∀ k, k ≠ 9 → k ≠ 10 → k ≠ 11 → k ≠ 42 → zI M' 20 k = zI M 20 k) ∧ (∀ k, zL M' 20 k = zL M 20 k)
section NE
variable {n : Nat} {B : Nat → Int}
theorem K_blameH (b : BO n B) {j : Nat} {M : MZ} (hT : TC n B M) (h5 : zI M 2 5 = j) (hj : j ≤ n) (hB : B j ≠ 32) (k : Int) : ((g_X9_blameHere k M).bind fun q => if q.1 = 0 ∨ q.1 = 1 then some (q.1, q.2) else none) = some (0, uI M 2 1 (fz k j)) := by
  unfold g_X9_blameHere g_X9_blame
  rw [K_peek_stay b hT h5 hj hB]
  simp only [bindS]
  rw [h5, if_pos (Or.inl trivial)]
  simp only [bindS]
  rw [if_pos (Or.inl trivial)]
  rfl
theorem sim_open (b : BO n B) {j sz dp : Nat} (hsz : sz < 40) (hdp : dp ≤ 4) {Mc Mr : MZ} (hS : SR n B j Mc Mr) (c6 : zI Mc 6 0 = ((sz + 1 : Nat) : Int)) (c4 : zI Mc 6 4 = dp) (r42 : zI Mr 20 42 = dp) : ∃ (fl : Int) (Mc' Mr' : MZ), g_X6_openBracket Mc = some (fl, Mc') ∧ g_X12_opens sz Mr = some (fl, Mr') ∧ COp Mc Mc' ∧ ROp Mr Mr' ∧ ((fl = 1 ∧ dp < 4 ∧ (∃ j', SR n B j' Mc' Mr') ∧ zI Mc' 6 4 = ((dp + 1 : Nat) : Int) ∧ zI Mr' 20 42 = ((dp + 1 : Nat) : Int) ∧ zI Mc' 8 dp = sz ∧ zI Mr' 34 dp = sz ∧ (∀ k, k ≠ dp → zI Mc' 8 k = zI Mc 8 k ∧ zI Mr' 34 k = zI Mr 34 k)) ∨ (fl = 0 ∧ zI Mr' 20 10 = zI Mc' 2 1)) := by
  obtain ⟨s, Mc1, Mr1, a1, a2, a3, a4, a5, a6, a7, a8, a9⟩ := sim_peek b hS
  obtain ⟨t1, t2, t3, t4, t5⟩ := a3
  have hn := b.1
  have c41 : zI Mc1 6 4 = dp := by rw [(a4.1 6 (by omega) 4).1]; exact c4
  have c61 : zI Mc1 6 0 = ((sz + 1 : Nat) : Int) := by rw [(a4.1 6 (by omega) 0).1]; exact c6
  have r421 : zI Mr1 20 42 = dp := by rw [a5.2.1 42 (by omega) (by omega) (by omega)]; exact r42
  have FC : COp Mc Mc1 := ⟨fun x h1 _ _ => a4.1 x h1, a4.2, (a4.1 6 (by omega) 0).1⟩
  have FR : ROp Mr Mr1 := ⟨fun x h1 _ => a5.1 x h1, fun k h1 h2 h3 _ => a5.2.1 k h1 h2 h3, a5.2.2⟩
  have bad : ∀ k : Int, COp Mc (uI Mc1 2 1 (fz k s)) ∧ ROp Mr (uI Mr1 20 10 (fz k s)) := fun k => ⟨⟨fun x h1 h2 h3 => (FC.1 x h1 h2 h3).trans (sameH_uI h1), by rw [zI_uI, if_neg (by omega)]; exact FC.2.1, by rw [zI_uI, if_neg (by omega)]; exact FC.2.2⟩, ⟨fun x h1 h2 => (FR.1 x h1 h2).trans (sameH_uI h1), fun j h1 h2 h3 h4 => by rw [zI_uI, if_neg (by omega)]; exact FR.2.1 j h1 h2 h3 h4, fun j => FR.2.2 j⟩⟩
  unfold g_X6_openBracket g_X12_opens
  rw [a1, a2]
  simp only [bindS]
  rw [t4]
  by_cases c : B s = 91
  case neg =>
    rw [if_neg c, if_neg c, K_blameH b t1 t3 t5 a9, R_failb 0 s Mr1]
    exact ⟨0, _, _, rfl, rfl, (bad 0).1, (bad 0).2, Or.inr ⟨rfl, by rw [zI_at, zI_at]; rfl⟩⟩
  rw [if_pos c, if_pos c, c41, r421, if_neg (show ¬ (dp : Int) < 0 by omega)]
  have hs : s < n := by
    by_cases q : s < n
    · exact q
    · have := b.2 s (by omega); omega
  by_cases c2 : dp = 4
  · have e40 : g_X6_openBracket_40 Mc1 = some (0, uI Mc1 2 1 (fz 3 s)) := K_blameH b t1 t3 t5 a9 3
    rw [if_neg (show ¬ (dp : Int) < 4 by omega), if_pos (show (dp : Int) = 4 by omega), e40, R_failb 3 s Mr1]
    exact ⟨0, _, _, rfl, rfl, (bad 3).1, (bad 3).2, Or.inr ⟨rfl, by rw [zI_at, zI_at]; rfl⟩⟩
  · have hb4 : (0 : Int) ≤ (dp : Int) ∧ (dp : Int) < ((4 : Nat) : Int) := by omega
    have ea : g_X9_accept 91 Mc1 = some (1, uI Mc1 2 5 ((s + 1 : Nat) : Int)) := by
      unfold g_X9_accept
      rw [K_peek_stay b t1 t3 t5 a9]
      simp only [bindS]
      rw [if_pos c, t3, w32_id (by omega) (by omega), show (s : Int) + 1 = ((s + 1 : Nat) : Int) by omega]
    have x4 : zI (uI Mc1 2 5 ((s + 1 : Nat) : Int)) 6 4 = (dp : Int) := by rw [zI_uI, if_neg (by omega)]; exact c41
    have x0 : zI (uI Mc1 2 5 ((s + 1 : Nat) : Int)) 6 0 = ((sz + 1 : Nat) : Int) := by rw [zI_uI, if_neg (by omega)]; exact c61
    have x8 : ∀ v : Int, zI (uI (uI Mc1 2 5 ((s + 1 : Nat) : Int)) 8 dp v) 6 4 = (dp : Int) := fun v => by rw [zI_uI, if_neg (by omega)]; exact x4
    have y4 : zI (uI Mr1 20 9 ((s + 1 : Nat) : Int)) 20 42 = (dp : Int) := by rw [zI_uI, if_neg (by omega)]; exact r421
    have y8 : ∀ v : Int, zI (uI (uI Mr1 20 9 ((s + 1 : Nat) : Int)) 34 dp v) 20 42 = (dp : Int) := fun v => by rw [zI_uI, if_neg (by omega)]; exact y4
    rw [if_pos (show (dp : Int) < 4 by omega), if_neg (show ¬ (dp : Int) = 4 by omega), ea]
    simp only [bindS]
    rw [x4, x0, if_pos hb4, Int.toNat_natCast, x8, w32_id (x := ((sz + 1 : Nat) : Int) - 1) (by omega) (by omega), w32_id (x := (dp : Int) + 1) (by omega) (by omega), w32_id (x := (s : Int) + 1) (by omega) (by omega), show (s : Int) + 1 = ((s + 1 : Nat) : Int) by omega, y4, if_pos hb4, Int.toNat_natCast, y8, w32_id (x := (dp : Int) + 1) (by omega) (by omega), show ((sz + 1 : Nat) : Int) - 1 = (sz : Int) by omega, show (dp : Int) + 1 = ((dp + 1 : Nat) : Int) by omega]
    unfold g_X12_opens_67
    refine ⟨1, _, _, rfl, rfl, ⟨fun x h1 h2 h3 => (((FC.1 x h1 h2 h3).trans (sameH_uI h1)).trans (sameH_uI h3)).trans (sameH_uI h2), ?_, ?_⟩, ⟨fun x h1 h2 => (((FR.1 x h1 h2).trans (sameH_uI h1)).trans (sameH_uI h2)).trans (sameH_uI h1), fun k h1 h2 h3 h4 => ?_, fun k => FR.2.2 k⟩, Or.inl ⟨rfl, by omega, ⟨s + 1, ⟨?_, fun k hk => ?_⟩, ⟨?_, fun k hk => ?_⟩, ?_, ?_, by omega⟩, zI_at _ _ _ _, zI_at _ _ _ _, ?_, ?_, fun k hk => ⟨?_, ?_⟩⟩⟩
    · rw [zI_uI, if_neg (by omega), zI_uI, if_neg (by omega), zI_uI, if_neg (by omega)]; exact FC.2.1
    · rw [zI_uI, if_neg (by omega), zI_uI, if_neg (by omega), zI_uI, if_neg (by omega)]; exact FC.2.2
    · rw [zI_uI, if_neg (by omega), zI_uI, if_neg (by omega), zI_uI, if_neg (by omega)]; exact FR.2.1 k h1 h2 h3 h4
    · rw [zI_uI, if_neg (by omega), zI_uI, if_neg (by omega), zI_uI, if_neg (by omega)]; exact t1.1
    · rw [zI_uI, if_neg (by omega), zI_uI, if_neg (by omega), zI_uI, if_neg (by omega)]; exact t1.2 k hk
    · rw [zI_uI, if_neg (by omega), zI_uI, if_neg (by omega), zI_uI, if_neg (by omega)]; exact t2.1
    · rw [zI_uI, if_neg (by omega), zI_uI, if_neg (by omega), zI_uI, if_neg (by omega)]; exact t2.2 k hk
    · rw [zI_uI, if_neg (by omega), zI_uI, if_neg (by omega), zI_at]
    · rw [zI_uI, if_neg (by omega), zI_uI, if_neg (by omega), zI_at]
    · rw [zI_uI, if_neg (by omega), zI_at]
    · rw [zI_uI, if_neg (by omega), zI_at]
    · rw [zI_uI, if_neg (by omega), zI_uI, if_neg (by omega), zI_uI, if_neg (by omega)]; exact (a4.1 8 (by omega) k).1
    · rw [zI_uI, if_neg (by omega), zI_uI, if_neg (by omega), zI_uI, if_neg (by omega)]; exact (a5.1 34 (by omega) k).1
end NE
