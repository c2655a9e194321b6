/-! a row of pools, swapped along in earnest -/
def sd2 (T : Nat → Int) (p : Nat) (t : Int) : Int := if T (5 * p) = t then 0 else 1
def alg (T : Nat → Int) (r : Nat) : Nat → Int → Int → (Nat → Int) → List (Nat → Int) → (Nat → Int) × List (Nat → Int)
  | 0, _, _, N, L => (N, L)
  | m + 1, t, a, N, L => alg T r m (otP T (dg r (rlen r - (m + 1)) - 1) (sd2 T (dg r (rlen r - (m + 1)) - 1) t)) (hpP N T L (dg r (rlen r - (m + 1)) - 1) (sd2 T (dg r (rlen r - (m + 1)) - 1) t) a) (swap N T L (dg r (rlen r - (m + 1)) - 1) (sd2 T (dg r (rlen r - (m + 1)) - 1) t) a (eT (sd2 T (dg r (rlen r - (m + 1)) - 1) t)) 0).1 (swap N T L (dg r (rlen r - (m + 1)) - 1) (sd2 T (dg r (rlen r - (m + 1)) - 1) t) a (eT (sd2 T (dg r (rlen r - (m + 1)) - 1) t)) 0).2.1
theorem alg_s (T : Nat → Int) {r m p : Nat} {t : Int} {s : Int} (hp : dg r (rlen r - (m + 1)) = p + 1) (hs : sd2 T p t = s) (a : Int) (N : Nat → Int) (L : List (Nat → Int)) : alg T r (m + 1) t a N L = alg T r m (otP T p s) (swap N T L p s a (eT s) 0).2.2.2.2.1 (swap N T L p s a (eT s) 0).1 (swap N T L p s a (eT s) 0).2.1 := by
  rw [alg, hp, Nat.add_sub_cancel, hs]
  rfl
theorem sd2_r (T : Nat → Int) (p : Nat) (t : Int) : sd2 T p t = 0 ∨ sd2 T p t = 1 := by
  unfold sd2
  split
  · exact Or.inl rfl
  · exact Or.inr rfl
/-- one step of a row that may be gone -/
theorem chk_s {T : Nat → Int} {po to : Int} {r m : Nat} {t : Int} {met thr : Nat} (hc : chk T po to r (m + 1) t met thr = true) : ∃ p, dg r (rlen r - (m + 1)) = p + 1 ∧ p < 5 ∧ (p : Int) < po ∧ sdP T p t = sd2 T p t ∧ chk T po to r m (otP T p (sd2 T p t)) (ms met (otP T p (sd2 T p t)).toNat) (ms thr p) = true := by
  unfold chk at hc
  rw [Bool.and_eq_true, decide_eq_true_eq] at hc
  obtain ⟨⟨h1, h2, h3, h4, h5⟩, h6⟩ := hc
  have h7 := dg_lt r (rlen r - (m + 1))
  generalize dg r (rlen r - (m + 1)) = d at *
  obtain ⟨p, rfl⟩ : ∃ p, d = p + 1 := ⟨d - 1, by omega⟩
  rw [Nat.add_sub_cancel] at *
  have e := sd_if h4
  have e2 : sd2 T p t = sdP T p t := e
  rw [← e2] at h6
  exact ⟨p, rfl, by omega, h2, e2.symm, h6⟩
def cdr (r : Nat) : Nat := 6 ^ rlen r + r
theorem cdr_inj {x y : Nat} (hx : x < 216) (hy : y < 216) (h : cdr x = cdr y) : x = y := by
  unfold cdr rlen at h
  by_cases c1 : x < 6 <;> by_cases c2 : x < 36 <;> by_cases c3 : y < 6 <;> by_cases c4 : y < 36 <;> simp only [c1, c2, c3, c4, if_true, if_false] at h <;> omega
theorem cdr_r {x : Nat} (hx : x < 216) : 1 ≤ cdr x ∧ cdr x < 432 := by
  unfold cdr rlen
  by_cases c1 : x < 6 <;> by_cases c2 : x < 36 <;> simp only [c1, c2, if_true, if_false] <;> omega
section FO
variable {M : MZ} {N T : Nat → Int} {L : List (Nat → Int)} {th pe po fr to a : Int}
theorem K_code_loop {r : Nat} (hr : r < 216) (h2 : zI M 14 2 = (rlen r : Int)) (h15 : ∀ j, j < rlen r → zI M 15 j = (dg r j : Int) - 1) : ∀ (m i f v : Nat), i + m = rlen r → m < f → v = 6 ^ i + r / 6 ^ m → g_X1_bestCode_4 f v i M = some ((cdr r : Int), M) := by
  have hl := rlen_r r
  intro m
  induction m with
  | zero =>
    intro i f v hi hf hv
    obtain ⟨f, rfl⟩ : ∃ g, f = g + 1 := ⟨f - 1, by omega⟩
    have e : g_X1_bestCode_4 (f + 1) v i M = g_X1_bestCode_4B (g_X1_bestCode_4 f) v i M := rfl
    rw [e]
    unfold g_X1_bestCode_4B g_X1_bestCode_41
    rw [h2, if_pos (by omega), hv]
    unfold cdr
    rw [show rlen r = i by omega, Nat.pow_zero, Nat.div_one]
  | succ m ih =>
    intro i f v hi hf hv
    obtain ⟨f, rfl⟩ : ∃ g, f = g + 1 := ⟨f - 1, by omega⟩
    have e : g_X1_bestCode_4 (f + 1) v i M = g_X1_bestCode_4B (g_X1_bestCode_4 f) v i M := rfl
    rw [e]
    unfold g_X1_bestCode_4B g_X1_bestCode_35
    rw [h2, if_neg (by omega), if_neg (by omega), if_pos (by omega), Int.toNat_natCast, h15 i (by omega)]
    have ed : dg r i = r / 6 ^ m % 6 := by unfold dg; rw [show rlen r - 1 - i = m by omega]
    have eq : r / 6 ^ (m + 1) = r / 6 ^ m / 6 := by rw [Nat.pow_succ, Nat.div_div_eq_div_mul]
    have hb : r / 6 ^ m ≤ r := Nat.div_le_self _ _
    have h6 : ∀ i, i < 3 → 6 ^ i ≤ 36 := by decide
    have h6i := h6 i (by omega)
    have es : 6 ^ (i + 1) = 6 ^ i * 6 := Nat.pow_succ _ _
    rw [ed, hv, eq]
    generalize r / 6 ^ m = q at *
    generalize 6 ^ i = u at *
    rw [w32_id (x := ((u + q / 6 : Nat) : Int) * 6) (by omega) (by omega), w32_id (x := ((u + q / 6 : Nat) : Int) * 6 + (((q % 6 : Nat) : Int) - 1)) (by omega) (by omega), w32_id (x := ((u + q / 6 : Nat) : Int) * 6 + (((q % 6 : Nat) : Int) - 1) + 1) (by omega) (by omega), w32_id (x := (i : Int) + 1) (by omega) (by omega), show ((u + q / 6 : Nat) : Int) * 6 + (((q % 6 : Nat) : Int) - 1) + 1 = ((u * 6 + q : Nat) : Int) by omega, show (i : Int) + 1 = ((i + 1 : Nat) : Int) by omega]
    exact ih (i + 1) f (u * 6 + q) (by omega) (by omega) (by rw [es])
theorem K_bestCode {s : BT} (hB : BS M s) (h0 : s.2.2 ≠ 0) : g_X1_bestCode M = some ((cdr s.2.2 : Int), M) := by
  obtain ⟨b1, b2, b3, b4, b5⟩ := hB
  have erl : rl s.2.2 = rlen s.2.2 := if_neg h0
  rw [erl] at b3 b5
  unfold g_X1_bestCode
  refine K_code_loop b4 b3 b5 (rlen s.2.2) 0 100000 1 (by omega) (by have := rlen_r s.2.2; omega) ?_
  have h : s.2.2 / 6 ^ rlen s.2.2 = 0 := by
    apply Nat.div_eq_of_lt
    unfold rlen
    by_cases c1 : s.2.2 < 6 <;> by_cases c2 : s.2.2 < 36 <;> simp only [c1, c2, if_true, if_false] <;> omega
  rw [h]
theorem K_follow_loop {r : Nat} (hr : r < 216) : ∀ (m f : Nat) (t a : Int) (M : MZ) (N : Nat → Int) (L : List (Nat → Int)) (met thr : Nat), m ≤ rlen r → m < f → chk T po to r m t met thr = true → Rep false M 143 N T L th pe po → WF N T L th pe po → (0 ≤ a ∧ a ≤ 9000000000) → zI M 14 2 = (rlen r : Int) → (∀ j, j < rlen r → zI M 15 j = (dg r j : Int) - 1) → ∃ M', g_X1_follow_10 f 143 t a ((rlen r - m : Nat) : Int) M = some ((), M') ∧ Rep false M' 143 (alg T r m t a N L).1 T (alg T r m t a N L).2 th pe po ∧ WF (alg T r m t a N L).1 T (alg T r m t a N L).2 th pe po ∧ (∀ x, x ≠ 4 → ¬ (143 ≤ x ∧ x < 143 + 65) → sameH M M' x) := by
  have hl := rlen_r r
  intro m
  induction m with
  | zero =>
    intro f t a M N L met thr hm hf hc R W ha h2 h15
    obtain ⟨f, rfl⟩ : ∃ g, f = g + 1 := ⟨f - 1, by omega⟩
    have e : g_X1_follow_10 (f + 1) 143 t a ((rlen r - 0 : Nat) : Int) M = g_X1_follow_10B (g_X1_follow_10 f) 143 t a ((rlen r - 0 : Nat) : Int) M := rfl
    rw [e]
    unfold g_X1_follow_10B g_X1_follow_119
    rw [h2, if_pos (by omega)]
    exact ⟨M, rfl, R, W, fun _ _ _ => sameH.rfl⟩
  | succ m ih =>
    intro f t a M N L met thr hm hf hc R W ha h2 h15
    obtain ⟨f, rfl⟩ : ∃ g, f = g + 1 := ⟨f - 1, by omega⟩
    have e : g_X1_follow_10 (f + 1) 143 t a ((rlen r - (m + 1) : Nat) : Int) M = g_X1_follow_10B (g_X1_follow_10 f) 143 t a ((rlen r - (m + 1) : Nat) : Int) M := rfl
    rw [e]
    obtain ⟨p, p1, p2, p3, p4, p5⟩ := chk_s hc
    have hs := sd2_r T p t
    rw [alg_s T p1 rfl]
    unfold g_X1_follow_10B
    rw [h2, if_neg (by omega), if_neg (by omega), if_pos (by omega), if_pos (kdb b143), Int.toNat_natCast, h15 _ (by omega), p1, show ((p + 1 : Nat) : Int) - 1 = (p : Int) by omega, K_poolAt_y b143 p2 (by rw [R.1.2.2.1]; exact p3)]
    simp only [bindS]
    have e0 : zI M (143 + 2 + 2 + 5 * p) 0 = T (5 * p) := R.2.2.1 p p2 p3 0 (by omega)
    have e1 := R.2.2.1 p p2 p3 1 (by omega)
    rw [if_neg (show ¬ 143 + 2 + 2 + 5 * p = 0 by omega), if_pos (kdp b143 p2), K_sideOf b143 p2, e0, e1]
    simp only [bindS]
    rw [show (if t = T (5 * p) then (0 : Int) else if t = T (5 * p + 1) then 1 else -1) = sdP T p t by
      unfold sdP
      simp only [eq_comm], p4]
    unfold g_X1_follow_58 g_X1_follow_102
    generalize sd2 T p t = s at *
    rw [if_neg (show ¬ s = -1 by omega), if_pos (by omega), K_lastTick]
    simp only [bindS]
    rw [Int.toNat_natCast, h15 _ (by omega), p1, show ((p + 1 : Nat) : Int) - 1 = (p : Int) by omega]
    have hpb := hp_b (a := a) p2 p3 hs
    obtain ⟨M1, b1, b2⟩ := K_pour10 b143 R W hpb (MkO_false b143 R p2 _) ⟨rfl, rfl⟩ (amount := a) (by omega) (per := -1) (Or.inl rfl)
    have hw := swap_WF00 W R.2.2.2.2.2.2 hpb (amount := a) (by omega)
    obtain ⟨B0, _, ⟨b4, b5, b6⟩, b7⟩ := b2
    have B := B0 rfl
    have b1' : g_X10_pour 143 (-1) p s a (if s = 0 then 0 else 40) 1 M = some ((), M1) := b1
    rw [b1']
    simp only [bindS]
    have f0 : zI M1 (143 + 2 + 2 + 5 * p) 0 = T (5 * p) := B.2.2.1 p p2 p3 0 (by omega)
    have f1 := B.2.2.1 p p2 p3 1 (by omega)
    rw [if_pos (kdp b143 p2), K_thingOn b143 p2, w32_id (x := 1 - s) (by omega) (by omega)]
    simp only [bindS]
    rw [show zI M1 (143 + 2 + 2 + 5 * p) (if 1 - s = 0 then 0 else 1) = otP T p s by
      unfold otP
      rcases hs with h | h
      · rw [h, if_neg (by omega), if_pos rfl]; exact f1
      · rw [h, if_pos (by omega), if_neg (by omega)]; exact f0, b5, w32_id (by omega) (by omega), show ((rlen r - (m + 1) : Nat) : Int) + 1 = ((rlen r - m : Nat) : Int) by omega]
    obtain ⟨M2, c1, c2, c3, c4⟩ := ih f (otP T p s) _ M1 _ _ _ _ (by omega) (by omega) p5 B hw.1 hw.2.2 (by rw [(b7 14 (by omega) (by omega) 2).1]; exact h2) (fun j hj => by rw [(b7 15 (by omega) (by omega) j).1]; exact h15 j hj)
    exact ⟨M2, c1, c2, c3, fun x h1 h2 => (b7 x h1 h2).trans (c4 x h1 h2)⟩
theorem R_goes_loop {r : Nat} (hr : r < 216) : ∀ (m f : Nat) (t a : Int) (M : MZ) (N : Nat → Int) (L : List (Nat → Int)) (met thr : Nat), m ≤ rlen r → m < f → chk T po to r m t met thr = true → RepR M N T L th pe po → KON M → WF N T L th pe po → (0 ≤ a ∧ a ≤ 9000000000) → ∃ M', g_X12_goesAlong_9 f r t a ((rlen r - m : Nat) : Int) M = some ((), M') ∧ RepR M' (alg T r m t a N L).1 T (alg T r m t a N L).2 th pe po ∧ KON M' ∧ FrS M M' := by
  have hl := rlen_r r
  intro m
  induction m with
  | zero =>
    intro f t a M N L met thr hm hf hc R K W ha
    obtain ⟨f, rfl⟩ : ∃ g, f = g + 1 := ⟨f - 1, by omega⟩
    have e : g_X12_goesAlong_9 (f + 1) r t a ((rlen r - 0 : Nat) : Int) M = g_X12_goesAlong_9B (g_X12_goesAlong_9 f) r t a ((rlen r - 0 : Nat) : Int) M := rfl
    rw [e]
    unfold g_X12_goesAlong_9B
    rw [R_lengthOf]
    simp only [bindS]
    rw [if_pos (by omega)]
    exact ⟨M, rfl, R, K, ⟨fun _ _ _ => sameH.rfl, fun _ _ => Eq.refl _, fun _ _ => Eq.refl _⟩⟩
  | succ m ih =>
    intro f t a M N L met thr hm hf hc R K W ha
    obtain ⟨f, rfl⟩ : ∃ g, f = g + 1 := ⟨f - 1, by omega⟩
    have e : g_X12_goesAlong_9 (f + 1) r t a ((rlen r - (m + 1) : Nat) : Int) M = g_X12_goesAlong_9B (g_X12_goesAlong_9 f) r t a ((rlen r - (m + 1) : Nat) : Int) M := rfl
    rw [e]
    obtain ⟨p, p1, p2, p3, p4, p5⟩ := chk_s hc
    have hs := sd2_r T p t
    rw [alg_s T p1 rfl]
    unfold g_X12_goesAlong_9B
    rw [R_lengthOf]
    simp only [bindS]
    rw [if_neg (by omega), R_poolIn hr (by omega)]
    simp only [bindS]
    rw [rpl_dg, p1, show ((p + 1 : Nat) : Int) - 1 = (p : Int) by omega, R_thingOf p2 (by omega) (by omega)]
    simp only [bindS]
    rw [R.2.1 _ (by omega)]
    simp only [show (0 : Int).toNat = 0 from rfl, Nat.add_zero]
    have go : ∃ M', g_X12_goesAlong_43 (g_X12_goesAlong_9 f) r a ((rlen r - (m + 1) : Nat) : Int) p (sd2 T p t) M = some ((), M') ∧ RepR M' (alg T r m (otP T p (sd2 T p t)) (swap N T L p (sd2 T p t) a (eT (sd2 T p t)) 0).2.2.2.2.1 (swap N T L p (sd2 T p t) a (eT (sd2 T p t)) 0).1 (swap N T L p (sd2 T p t) a (eT (sd2 T p t)) 0).2.1).1 T (alg T r m (otP T p (sd2 T p t)) (swap N T L p (sd2 T p t) a (eT (sd2 T p t)) 0).2.2.2.2.1 (swap N T L p (sd2 T p t) a (eT (sd2 T p t)) 0).1 (swap N T L p (sd2 T p t) a (eT (sd2 T p t)) 0).2.1).2 th pe po ∧ KON M' ∧ FrS M M' := by
      generalize sd2 T p t = s at *
      have hpb := hp_b (a := a) p2 p3 hs
      obtain ⟨M1, c1, c2, c3, c4, c5, c6, c7⟩ := R_swaps0 R K W hpb (amount := a) (by omega)
      have hw := swap_WF00 W R.2.2.2.2.2 hpb (amount := a) (by omega)
      obtain ⟨M2, d1, d2, d3, d4⟩ := ih f (otP T p s) _ M1 _ _ _ _ (by omega) (by omega) p5 c2.1 c4 hw.1 hw.2.2
      refine ⟨M2, ?_, d2, d3, c5.trans d4⟩
      unfold g_X12_goesAlong_43 g_X12_goesAlong_67
      rw [R_endOf]
      simp only [bindS]
      have c1' : g_X12_swaps p s a (if s = 0 then 0 else 40) 0 M = some ((), M1) := c1
      rw [c1']
      simp only [bindS]
      rw [w32_id (x := 1 - s) (by omega) (by omega), R_thingOf p2 (by omega) (by omega)]
      simp only [bindS]
      rw [c2.1.2.1 _ (by omega), c2.2.2.2.1, w32_id (by omega) (by omega), show ((rlen r - (m + 1) : Nat) : Int) + 1 = ((rlen r - m : Nat) : Int) by omega, show T (5 * p + (1 - s).toNat) = otP T p s by unfold otP; rcases hs with h | h <;> rw [h] <;> rfl]
      exact d1
    by_cases ct : T (5 * p) = t
    · rw [if_pos ct]
      have e2 : sd2 T p t = 0 := if_pos ct
      rw [e2] at go ⊢
      exact go
    · rw [if_neg ct]
      have e2 : sd2 T p t = 1 := if_neg ct
      rw [e2] at go ⊢
      exact go
theorem alg_WF_loop {r : Nat} : ∀ (m : Nat) (t a : Int) (N : Nat → Int) (L : List (Nat → Int)) (met thr : Nat), m ≤ rlen r → chk T po to r m t met thr = true → WF N T L th pe po → L.length ≤ 12 → (0 ≤ a ∧ a ≤ 9000000000) → WF (alg T r m t a N L).1 T (alg T r m t a N L).2 th pe po := by
  intro m
  induction m with
  | zero => intro t a N L met thr hm hc W h12 ha; exact W
  | succ m ih =>
    intro t a N L met thr hm hc W h12 ha
    obtain ⟨p, p1, p2, p3, p4, p5⟩ := chk_s hc
    rw [alg_s T p1 rfl]
    have hw := swap_WF00 W h12 (hp_b (a := a) p2 p3 (sd2_r T p t)) (amount := a) (by omega)
    exact ih _ _ _ _ _ _ (by omega) p5 hw.1 hw.2.1 hw.2.2
theorem alg_WF {r : Nat} (hr : r < 216) {t : Int} {met thr : Nat} (hc : chk T po to r (rlen r) t met thr = true) (W : WF N T L th pe po) (h12 : L.length ≤ 12) {a : Int} (ha : 0 ≤ a ∧ a ≤ 9000000000) : WF (alg T r (rlen r) t a N L).1 T (alg T r (rlen r) t a N L).2 th pe po := alg_WF_loop (rlen r) t a N L met thr (Nat.le_refl _) hc W h12 ha
/-- the best row may be gone along -/
theorem best_chk (ha : 0 < a) (h0 : (best N T L po fr to a).2.2 ≠ 0) : chk T po to (best N T L po fr to a).2.2 (rlen (best N T L po fr to a).2.2) fr (2 ^ fr.toNat) 0 = true := by
  have h : Bst a (Vr N T L po fr to a) (-a, 0, 0) (best N T L po fr to a) _ := Bst_dfs (Int.le_refl _) (by show (0 : Int) ≠ a; omega)
  rcases h with ⟨e, _⟩ | ⟨x, e1, e2, e3, _⟩
  · rw [e] at h0
    exact absurd rfl h0
  · rw [e2]
    show chk T po to x (rlen x) fr (2 ^ fr.toNat) 0 = true
    have e3' : -a < Vr N T L po fr to a x - a := e3
    unfold Vr at e3'
    by_cases c : chk T po to x (rlen x) fr (2 ^ fr.toNat) 0 = true
    · exact c
    · rw [if_neg c] at e3'
      omega
end FO
