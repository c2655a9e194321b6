/-! the value of a row of pools, and the reference's walk along it -/
def dg (r k : Nat) : Nat := r / 6 ^ (rlen r - 1 - k) % 6
def ms (m : Nat) (x : Nat) : Nat := if m / 2 ^ x % 2 = 1 then m else m + 2 ^ x
def chk (T : Nat → Int) (po to : Int) (r : Nat) : Nat → Int → Nat → Nat → Bool
  | 0, _, _, _ => true
  | m + 1, t, met, thr => (decide (dg r (rlen r - (m + 1)) ≠ 0 ∧ ((dg r (rlen r - (m + 1)) - 1 : Nat) : Int) < po ∧ ¬ (thr / 2 ^ (dg r (rlen r - (m + 1)) - 1) % 2 = 1) ∧ 0 ≤ sdP T (dg r (rlen r - (m + 1)) - 1) t ∧ (if m = 0 then otP T (dg r (rlen r - (m + 1)) - 1) (sdP T (dg r (rlen r - (m + 1)) - 1) t) = to else ¬ (met / 2 ^ (otP T (dg r (rlen r - (m + 1)) - 1) (sdP T (dg r (rlen r - (m + 1)) - 1) t)).toNat % 2 = 1) ∧ otP T (dg r (rlen r - (m + 1)) - 1) (sdP T (dg r (rlen r - (m + 1)) - 1) t) ≠ to))) && chk T po to r m (otP T (dg r (rlen r - (m + 1)) - 1) (sdP T (dg r (rlen r - (m + 1)) - 1) t)) (ms met (otP T (dg r (rlen r - (m + 1)) - 1) (sdP T (dg r (rlen r - (m + 1)) - 1) t)).toNat) (ms thr (dg r (rlen r - (m + 1)) - 1))
def hps (N T : Nat → Int) (L : List (Nat → Int)) (r : Nat) : Nat → Int → Int → Int
  | 0, _, a => a
  | m + 1, t, a => if a ≤ 0 then a else hps N T L r m (otP T (dg r (rlen r - (m + 1)) - 1) (if T (5 * (dg r (rlen r - (m + 1)) - 1)) = t then 0 else 1)) (hpP N T L (dg r (rlen r - (m + 1)) - 1) (if T (5 * (dg r (rlen r - (m + 1)) - 1)) = t then 0 else 1) a)
def Vr (N T : Nat → Int) (L : List (Nat → Int)) (po fr to a : Int) (r : Nat) : Int := if chk T po to r (rlen r) fr (2 ^ fr.toNat) 0 = true then hps N T L r (rlen r) fr a else 0
theorem p2_lt : ∀ f, f < 5 → 2 ^ f < 32 := by decide
theorem rlen_r (r : Nat) : 1 ≤ rlen r ∧ rlen r ≤ 3 := by unfold rlen; split <;> (try split) <;> omega
theorem dg_lt (r k : Nat) : dg r k < 6 := Nat.mod_lt _ (by omega)
theorem rpl_dg (r k : Nat) : rpl r k = (dg r k : Int) - 1 := rfl
theorem chk_d {T : Nat → Int} {po to : Int} {r : Nat} : ∀ (m : Nat) (t : Int) (met thr : Nat), m ≤ rlen r → chk T po to r m t met thr = true → ∀ k, rlen r - m ≤ k → k < rlen r → dg r k ≠ 0 ∧ ((dg r k - 1 : Nat) : Int) < po := by
  intro m
  induction m with
  | zero => intro t met thr hm hc k h1 h2; omega
  | succ m ih =>
    intro t met thr hm hc k h1 h2
    unfold chk at hc
    rw [Bool.and_eq_true, decide_eq_true_eq] at hc
    by_cases e : k = rlen r - (m + 1)
    · rw [e]; exact ⟨hc.1.1, hc.1.2.1⟩
    · exact ih _ _ _ (by omega) hc.2 k (by omega) h2
theorem otP_r {N T : Nat → Int} {L : List (Nat → Int)} {th pe po : Int} (W : WF N T L th pe po) {p : Nat} (hp : p < 5) (hq : (p : Int) < po) (s : Int) : 0 ≤ otP T p s ∧ otP T p s < 5 := by
  have h := (W.2.1 p hp hq).1
  have hz := W.1.r
  unfold Told at h
  unfold otP
  split <;> omega
section AL
variable {N T : Nat → Int} {L : List (Nat → Int)} {th pe po : Int} {r : Nat}
theorem R_al_hop (W : WF N T L th pe po) (hr : r < 216) (hd : ∀ k, k < rlen r → dg r k ≠ 0 ∧ ((dg r k - 1 : Nat) : Int) < po) : ∀ (m f : Nat) (t a : Int) (M : MZ), m ≤ rlen r → m < f → RepR M N T L th pe po → KON M → (0 ≤ a ∧ a ≤ 10000000000) → ∃ M', g_X12_along_197 f r t a ((rlen r - m : Nat) : Int) M = some (hps N T L r m t a, M') ∧ RepR M' N T L th pe po ∧ KON M' ∧ FrO M M' := by
  intro m
  induction m with
  | zero =>
    intro f t a M hm hf R K ha
    obtain ⟨f, rfl⟩ : ∃ g, f = g + 1 := ⟨f - 1, by omega⟩
    have e : g_X12_along_197 (f + 1) r t a ((rlen r - 0 : Nat) : Int) M = g_X12_along_197B (g_X12_along_197 f) r t a ((rlen r - 0 : Nat) : Int) M := rfl
    rw [e]
    unfold g_X12_along_197B g_X12_along_270
    rw [R_lengthOf]
    simp only [bindS]
    rw [if_pos (by omega)]
    exact ⟨M, rfl, R, K, FrO.rfl⟩
  | succ m ih =>
    intro f t a M hm hf R K ha
    obtain ⟨f, rfl⟩ : ∃ g, f = g + 1 := ⟨f - 1, by omega⟩
    have e : g_X12_along_197 (f + 1) r t a ((rlen r - (m + 1) : Nat) : Int) M = g_X12_along_197B (g_X12_along_197 f) r t a ((rlen r - (m + 1) : Nat) : Int) M := rfl
    have hr3 := rlen_r r
    rw [e]
    unfold g_X12_along_197B g_X12_along_270
    rw [R_lengthOf]
    simp only [bindS]
    rw [if_neg (by omega)]
    unfold hps
    by_cases ca : a ≤ 0
    · rw [if_pos ca, if_pos ca]
      exact ⟨M, rfl, R, K, FrO.rfl⟩
    rw [if_neg ca, if_neg ca, R_poolIn hr (by omega)]
    simp only [bindS]
    obtain ⟨h1, h2⟩ := hd (rlen r - (m + 1)) (by omega)
    have h6 := dg_lt r (rlen r - (m + 1))
    rw [rpl_dg]
    generalize dg r (rlen r - (m + 1)) = d at *
    obtain ⟨p, rfl⟩ : ∃ p, d = p + 1 := ⟨d - 1, by omega⟩
    simp only [Nat.add_sub_cancel] at h2 ⊢
    rw [show ((p + 1 : Nat) : Int) - 1 = (p : Int) by omega, R_thingOf (by omega) (by omega) (by omega)]
    simp only [bindS]
    rw [R.2.1 _ (by omega)]
    simp only [show (0 : Int).toNat = 0 from rfl, Nat.add_zero]
    have go : ∀ s : Int, (s = 0 ∨ s = 1) → ∃ M', g_X12_along_238 (g_X12_along_197 f) r a ((rlen r - (m + 1) : Nat) : Int) p s M = some (hps N T L r m (otP T p s) (hpP N T L p s a), M') ∧ RepR M' N T L th pe po ∧ KON M' ∧ FrO M M' := by
      intro s hs
      obtain ⟨M1, a1, a2, a3, a4⟩ := R_hop R K W (p := p) (by omega) h2 hs (a := a) (by omega)
      have hb := hpP_r W R.2.2.2.2.2 (p := p) (by omega) h2 hs (a := a) (by omega)
      obtain ⟨M2, b1, b2, b3, b4⟩ := ih f (otP T p s) (hpP N T L p s a) M1 (by omega) (by omega) a2 a3 (by omega)
      refine ⟨M2, ?_, b2, b3, a4.trans b4⟩
      unfold g_X12_along_238
      rw [a1]
      simp only [bindS]
      rw [w32_id (x := 1 - s) (by omega) (by omega), R_thingOf (by omega) (by omega) (by omega)]
      simp only [bindS]
      rw [a2.2.1 _ (by omega), w32_id (by omega) (by omega), show ((rlen r - (m + 1) : Nat) : Int) + 1 = ((rlen r - m : Nat) : Int) by omega, show T (5 * p + (1 - s).toNat) = otP T p s by unfold otP; rcases hs with h | h <;> rw [h] <;> rfl]
      exact b1
    by_cases ct : T (5 * p) = t
    · rw [if_pos ct, if_pos ct]; exact go 0 (Or.inl rfl)
    · rw [if_neg ct, if_neg ct]; exact go 1 (Or.inr rfl)
theorem R_al_chk (W : WF N T L th pe po) (hr : r < 216) (fr to a : Int) {M : MZ} (R : RepR M N T L th pe po) {X : Option (Int × MZ)} (hX : g_X12_along_197 100000 r fr a 0 M = X) : ∀ (m f : Nat) (t : Int) (met thr : Nat), m ≤ rlen r → m < f → met < 32 → thr < 32 → g_X12_along_18 f r fr to t met thr a ((rlen r - m : Nat) : Int) M = if chk T po to r m t met thr = true then X else some (0, M) := by
  intro m
  induction m with
  | zero =>
    intro f t met thr hm hf h1 h2
    obtain ⟨f, rfl⟩ : ∃ g, f = g + 1 := ⟨f - 1, by omega⟩
    have e : g_X12_along_18 (f + 1) r fr to t met thr a ((rlen r - 0 : Nat) : Int) M = g_X12_along_18B (g_X12_along_18 f) r fr to t met thr a ((rlen r - 0 : Nat) : Int) M := rfl
    rw [e]
    unfold g_X12_along_18B
    rw [R_lengthOf]
    simp only [bindS]
    rw [if_pos (show (rlen r : Int) ≤ ((rlen r - 0 : Nat) : Int) by omega), if_pos (show chk T po to r 0 t met thr = true from rfl), hX]
  | succ m ih =>
    intro f t met thr hm hf hmet hthr
    obtain ⟨f, rfl⟩ : ∃ g, f = g + 1 := ⟨f - 1, by omega⟩
    have e : g_X12_along_18 (f + 1) r fr to t met thr a ((rlen r - (m + 1) : Nat) : Int) M = g_X12_along_18B (g_X12_along_18 f) r fr to t met thr a ((rlen r - (m + 1) : Nat) : Int) M := rfl
    have hr3 := rlen_r r
    rw [e]
    unfold g_X12_along_18B
    rw [R_lengthOf]
    simp only [bindS]
    rw [if_neg (by omega), R_poolIn hr (by omega)]
    simp only [bindS]
    rw [R_lengthOf]
    simp only [bindS]
    have h6 := dg_lt r (rlen r - (m + 1))
    rw [rpl_dg, w32_id (x := (rlen r : Int) - 1) (by omega) (by omega)]
    have key : ∀ s0 : Int, s0 = (if m = 0 then 1 else 0) → g_X12_along_51 (g_X12_along_18 f) r fr to t met thr a ((rlen r - (m + 1) : Nat) : Int) ((dg r (rlen r - (m + 1)) : Int) - 1) s0 M = if chk T po to r (m + 1) t met thr = true then X else some (0, M) := by
      intro s0 hs0
      unfold chk
      generalize ek : ((rlen r - (m + 1) : Nat) : Int) = kk
      generalize dg r (rlen r - (m + 1)) = d at *
      unfold g_X12_along_51 g_X12_along_78
      by_cases c0 : d = 0
      · rw [if_pos (show (d : Int) - 1 < 0 by omega), if_neg]
        rw [Bool.and_eq_true, decide_eq_true_eq]
        exact fun q => q.1.1 c0
      obtain ⟨p, rfl⟩ : ∃ p, d = p + 1 := ⟨d - 1, by omega⟩
      simp only [Nat.add_sub_cancel]
      rw [show ((p + 1 : Nat) : Int) - 1 = (p : Int) by omega, if_neg (show ¬ (p : Int) < 0 by omega), R.1.2.2]
      by_cases c1 : po ≤ (p : Int)
      · rw [if_pos c1, if_neg]
        rw [Bool.and_eq_true, decide_eq_true_eq]
        exact fun q => by omega
      rw [if_neg c1, mk_get thr hthr p (by omega)]
      by_cases c2 : thr / 2 ^ p % 2 = 1
      · rw [if_pos (if_pos c2), if_neg]
        rw [Bool.and_eq_true, decide_eq_true_eq]
        exact fun q => q.1.2.2.1 c2
      rw [if_neg (by rw [if_neg c2]; omega), R_thingOf (by omega) (by omega) (by omega)]
      simp only [bindS]
      rw [R_thingOf (by omega) (by omega) (by omega)]
      simp only [bindS]
      rw [R.2.1 _ (by omega), R.2.1 _ (by omega)]
      simp only [show (0 : Int).toNat = 0 from rfl, show (1 : Int).toNat = 1 from rfl, Nat.add_zero]
      have go : ∀ s : Int, (s = 0 ∨ s = 1) → sdP T p t = s → g_X12_along_113 (g_X12_along_18 f) r fr to met thr a kk p s0 s M = if (decide (p + 1 ≠ 0 ∧ (p : Int) < po ∧ ¬ (thr / 2 ^ p % 2 = 1) ∧ 0 ≤ sdP T p t ∧ (if m = 0 then otP T p (sdP T p t) = to else ¬ (met / 2 ^ (otP T p (sdP T p t)).toNat % 2 = 1) ∧ otP T p (sdP T p t) ≠ to)) && chk T po to r m (otP T p (sdP T p t)) (ms met (otP T p (sdP T p t)).toNat) (ms thr p)) = true then X else some (0, M) := by
        intro s hs es
        rw [es]
        have ho := otP_r W (p := p) (by omega) (by omega) s
        unfold g_X12_along_113 g_X12_along_165
        rw [if_pos (by omega), w32_id (x := 1 - s) (by omega) (by omega), R_thingOf (by omega) (by omega) (by omega)]
        simp only [bindS]
        rw [R.2.1 _ (by omega), show T (5 * p + (1 - s).toNat) = otP T p s by unfold otP; rcases hs with h | h <;> rw [h] <;> rfl]
        generalize otP T p s = o at *
        obtain ⟨o, rfl⟩ : ∃ n : Nat, o = n := ⟨o.toNat, by omega⟩
        simp only [Int.toNat_natCast]
        have nx : g_X12_along_167 (g_X12_along_18 f) r fr to (o : Int) met thr a kk p M = if chk T po to r m (o : Int) (ms met o) (ms thr p) = true then X else some (0, M) := by
          unfold g_X12_along_167 g_X12_along_176 g_X12_along_185
          rw [mk_set met hmet o (by omega), mk_set thr hthr p (by omega), ← ek, w32_id (by omega) (by omega), show ((rlen r - (m + 1) : Nat) : Int) + 1 = ((rlen r - m : Nat) : Int) by omega]
          exact ih f (o : Int) (ms met o) (ms thr p) (by omega) (by omega) (mk_lt met hmet o (by omega)) (mk_lt thr hthr p (by omega))
        rw [nx, mk_get met hmet o (by omega)]
        by_cases cm : m = 0
        · rw [if_pos cm] at hs0
          rw [if_neg (by omega)]
          simp only [if_pos cm]
          by_cases co : (o : Int) = to
          · rw [if_pos co]
            congr 1
            rw [Bool.and_eq_true, decide_eq_true_eq]
            exact propext ⟨fun q => ⟨⟨by omega, by omega, c2, by omega, co⟩, q⟩, fun q => q.2⟩
          · rw [if_neg co, if_neg]
            rw [Bool.and_eq_true, decide_eq_true_eq]
            exact fun q => co q.1.2.2.2.2
        · rw [if_neg cm] at hs0
          rw [if_pos hs0]
          simp only [if_neg cm]
          by_cases cb : met / 2 ^ o % 2 = 1
          · rw [if_pos (if_pos cb), if_neg]
            rw [Bool.and_eq_true, decide_eq_true_eq]
            exact fun q => q.1.2.2.2.2.1 cb
          rw [if_neg (by rw [if_neg cb]; omega)]
          by_cases co : (o : Int) = to
          · rw [if_pos co, if_neg]
            rw [Bool.and_eq_true, decide_eq_true_eq]
            exact fun q => q.1.2.2.2.2.2 co
          · rw [if_neg co]
            congr 1
            rw [Bool.and_eq_true, decide_eq_true_eq]
            exact propext ⟨fun q => ⟨⟨by omega, by omega, c2, by omega, cb, co⟩, q⟩, fun q => q.2⟩
      by_cases ct : T (5 * p) = t
      · rw [if_pos ct]
        exact go 0 (Or.inl rfl) (by unfold sdP; rw [if_pos ct])
      rw [if_neg ct]
      by_cases cu : T (5 * p + 1) = t
      · rw [if_pos cu]
        exact go 1 (Or.inr rfl) (by unfold sdP; rw [if_neg ct, if_pos cu])
      rw [if_neg cu, if_neg]
      · rfl
      · rw [Bool.and_eq_true, decide_eq_true_eq]
        intro q
        have q4 := q.1.2.2.2.1
        unfold sdP at q4
        rw [if_neg ct, if_neg cu] at q4
        omega
    by_cases cm : m = 0
    · rw [if_pos (by omega)]; exact key 1 (by rw [if_pos cm])
    · rw [if_neg (by omega)]; exact key 0 (by rw [if_neg cm])
theorem hps_r (W : WF N T L th pe po) (h12 : L.length ≤ 12) (hd : ∀ k, k < rlen r → dg r k ≠ 0 ∧ ((dg r k - 1 : Nat) : Int) < po) : ∀ (m : Nat) (t a : Int), m ≤ rlen r → (0 ≤ a ∧ a ≤ 9000000000) → 0 ≤ hps N T L r m t a ∧ hps N T L r m t a ≤ 9000000000 := by
  intro m
  induction m with
  | zero => intro t a _ ha; exact ha
  | succ m ih =>
    intro t a hm ha
    unfold hps
    split
    · exact ha
    · obtain ⟨h1, h2⟩ := hd (rlen r - (m + 1)) (by omega)
      have h6 := dg_lt r (rlen r - (m + 1))
      exact ih _ _ (by omega) (hpP_r W h12 (by omega) h2 (by split <;> omega) (by omega))
theorem Vr_r (W : WF N T L th pe po) (h12 : L.length ≤ 12) (fr to : Int) {a : Int} (ha : 0 < a ∧ a ≤ 9999999) : 0 ≤ Vr N T L po fr to a r ∧ Vr N T L po fr to a r ≤ 9000000000 := by
  unfold Vr
  split
  · rename_i hc
    exact hps_r W h12 (fun k hk => chk_d _ _ _ _ (by omega) hc k (by omega) hk) _ _ _ (by omega) (by omega)
  · omega
theorem R_along {M : MZ} (R : RepR M N T L th pe po) (K : KON M) (W : WF N T L th pe po) (hr : r < 216) {fr to a : Int} (hf : 0 ≤ fr ∧ fr < 5) (ha : 0 < a ∧ a ≤ 9999999) : ∃ M', g_X12_along r fr to a M = some (Vr N T L po fr to a r, M') ∧ RepR M' N T L th pe po ∧ KON M' ∧ FrO M M' := by
  obtain ⟨f, rfl⟩ : ∃ n : Nat, fr = n := ⟨fr.toNat, by omega⟩
  unfold g_X12_along g_X12_along_8
  rw [mk_one f (by omega)]
  have h := R_al_chk W hr (f : Int) to a R rfl (rlen r) 100000 (f : Int) (2 ^ f) 0 (by omega) (by have := rlen_r r; omega) (p2_lt f (by omega)) (by omega)
  rw [Nat.sub_self, show ((0 : Nat) : Int) = 0 from rfl] at h
  rw [h]
  unfold Vr
  rw [Int.toNat_natCast]
  by_cases hc : chk T po to r (rlen r) f (2 ^ f) 0 = true
  · rw [if_pos hc, if_pos hc]
    have h2 := R_al_hop W hr (fun k hk => chk_d _ _ _ _ (by omega) hc k (by omega) hk) (rlen r) 100000 (f : Int) a M (by omega) (by have := rlen_r r; omega) R K (by omega)
    rw [Nat.sub_self, show ((0 : Nat) : Int) = 0 from rfl] at h2
    exact h2
  · rw [if_neg hc, if_neg hc]
    exact ⟨M, rfl, R, K, FrO.rfl⟩
end AL
