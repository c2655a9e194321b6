/-! the reference's least -/
theorem R_isThere (side z zone : Int) (M : MZ) : g_X12_isThere side z zone M = some (if thr side zone z = true then 1 else 0, M) := by
  unfold g_X12_isThere g_X12_isThere_27 thr
  by_cases hs : side = 0
  · rw [if_pos hs, if_pos hs]
    by_cases c : zone < z
    · rw [if_pos c, if_pos (Or.inl rfl), if_neg (by rw [decide_eq_true_eq]; omega)]
    · rw [if_neg c, if_pos (Or.inr rfl), if_pos (by rw [decide_eq_true_eq]; omega)]
  · rw [if_neg hs, if_neg hs]
    by_cases c : z < zone
    · rw [if_pos c, if_pos (Or.inl rfl), if_neg (by rw [decide_eq_true_eq]; omega)]
    · rw [if_neg c, if_pos (Or.inr rfl), if_pos (by rw [decide_eq_true_eq]; omega)]
def mea (side e z : Int) : Int := if side = 0 then z - e + 1 else e - z
def LST (side zone : Int) (Zf : Int → Int) (v : Int) : Prop := (v ≤ 9999999 → 1 ≤ v ∧ thr side zone (Zf v) = true ∧ ∀ n, 1 ≤ n → n < v → thr side zone (Zf n) = false) ∧ (9999999 < v → ∀ n, 1 ≤ n → n ≤ 9999999 → thr side zone (Zf n) = false)
section LR
variable {M : MZ} {N T : Nat → Int} {L : List (Nat → Int)} {th pe po : Int} {p : Nat} {side e : Int}
theorem R_zoneWithin (R : RepR M N T L th pe po) (K : KON M) (W : WF N T L th pe po) (hG : PG N p po side e) {u : Int} (hu : 0 < u ∧ u < wh N T L p side e) : g_X12_zoneWithin p side (xA N L p side e) u M = some (xZ N T L p side e 0 u, M) := by
  have hw := wh_r W R.2.2.2.2.2 hG
  have hf := fee_r W hG
  have hg : Pgo N T L p po side e 0 u := hG.go (by omega)
  obtain ⟨hP, hA, hA0, hA1, hrz⟩ := hg.pst W R.2.2.2.2.2
  have hre : ¬ xRe N T L p side e 0 u = true := fun q => by have := (xRe_wh hf u).1 q; omega
  have hre' : xRe N T L p side e 0 u = false := by
    cases h : xRe N T L p side e 0 u
    · rfl
    · exact absurd h hre
  have m1 : u * (1000 - T (5 * p + 2)) ≤ u * 1000 := Int.mul_le_mul_of_nonneg_left (by omega) (by omega)
  have m2 : 0 ≤ u * (1000 - T (5 * p + 2)) := Int.mul_nonneg (by omega) (by omega)
  unfold g_X12_zoneWithin
  rw [R_feeOf hG.1]
  simp only [bindS]
  rw [R.2.1 _ (by have := hG.1; omega), w32_id (x := 1000 - T (5 * p + 2)) (by omega) (by omega), w64_id (x := u * (1000 - T (5 * p + 2))) (by omega) (by omega), Int.tdiv_eq_ediv_of_nonneg m2, w64_id (x := u * (1000 - T (5 * p + 2)) / 1000) (by omega) (by omega)]
  have e1 : sN 0 (T (5 * p + 2)) u = u * (1000 - T (5 * p + 2)) / 1000 := by unfold sN; rw [if_pos rfl]
  rw [← e1, R_rootBy R W hg hre']
  simp only [bindS]
  rw [R_zoneOf K]
  simp only [bindS]
  rw [R_zoneBy R hG.1 hrz.1 _ hG.2.2.1 hA]
  simp only [bindS]
  unfold xZ
  rw [if_neg hre]
  rfl
theorem R_within_loop (R : RepR M N T L th pe po) (K : KON M) (W : WF N T L th pe po) (hG : PG N p po side e) (zone : Int) : ∀ (d f : Nat) (low high : Int), high - low < ((2 ^ d : Nat) : Int) → d < f → 1 ≤ low → low ≤ high → high < wh N T L p side e → thr side zone (xZ N T L p side e 0 high) = true → (∀ n, 1 ≤ n → n < low → thr side zone (xZ N T L p side e 0 n) = false) → ∃ v, g_X12_leastWithin_40 f p side (xA N L p side e) zone low high M = some (v, M) ∧ 1 ≤ v ∧ v < wh N T L p side e ∧ thr side zone (xZ N T L p side e 0 v) = true ∧ ∀ n, 1 ≤ n → n < v → thr side zone (xZ N T L p side e 0 n) = false := by
  have hw := wh_r W R.2.2.2.2.2 hG
  intro d
  induction d with
  | zero =>
    intro f low high hd hf h1 h2 h3 ht hn
    obtain ⟨f, rfl⟩ : ∃ g, f = g + 1 := ⟨f - 1, by omega⟩
    have e1 : g_X12_leastWithin_40 (f + 1) p side (xA N L p side e) zone low high M = g_X12_leastWithin_40B (g_X12_leastWithin_40 f) p side (xA N L p side e) zone low high M := rfl
    rw [e1]
    unfold g_X12_leastWithin_40B
    have : ((2 ^ 0 : Nat) : Int) = 1 := rfl
    obtain rfl : low = high := by omega
    rw [if_pos (Int.le_refl _)]
    exact ⟨low, rfl, h1, h3, ht, hn⟩
  | succ d ih =>
    intro f low high hd hf h1 h2 h3 ht hn
    obtain ⟨f, rfl⟩ : ∃ g, f = g + 1 := ⟨f - 1, by omega⟩
    have e1 : g_X12_leastWithin_40 (f + 1) p side (xA N L p side e) zone low high M = g_X12_leastWithin_40B (g_X12_leastWithin_40 f) p side (xA N L p side e) zone low high M := rfl
    rw [e1]
    unfold g_X12_leastWithin_40B g_X12_leastWithin_59 g_X12_leastWithin_90
    by_cases c : high ≤ low
    · obtain rfl : low = high := by omega
      rw [if_pos (Int.le_refl _)]
      exact ⟨low, rfl, h1, h3, ht, hn⟩
    have e2 : ((2 ^ (d + 1) : Nat) : Int) = 2 * ((2 ^ d : Nat) : Int) := by rw [Nat.pow_succ]; omega
    rw [e2] at hd
    rw [if_neg c, w64_id (x := low + high) (by omega) (by omega), Int.tdiv_eq_ediv_of_nonneg (by omega), w64_id (x := (low + high) / 2) (by omega) (by omega)]
    rw [R_zoneWithin R K W hG (u := (low + high) / 2) (by omega)]
    simp only [bindS]
    rw [R_isThere]
    simp only [bindS]
    generalize em : (low + high) / 2 = mid at *
    by_cases cm : thr side zone (xZ N T L p side e 0 mid) = true
    · rw [if_pos cm, if_neg (by omega)]
      exact ih f low mid (by omega) (by omega) h1 (by omega) (by omega) cm hn
    · rw [if_neg cm, if_pos rfl, w64_id (x := mid + 1) (by omega) (by omega)]
      refine ih f (mid + 1) high (by omega) (by omega) (by omega) (by omega) h3 ht (fun n n1 n2 => ?_)
      cases h : thr side zone (xZ N T L p side e 0 n)
      · rfl
      · exact absurd (thr_f hG.2.2.1 (xZ_mono W R.2.2.2.2.2 hG (u := n) (v := mid) (by omega) (by omega) (by omega)) h) cm
theorem R_leastWithin (R : RepR M N T L th pe po) (K : KON M) (W : WF N T L th pe po) (hG : PG N p po side e) (zone : Int) : ∃ v, g_X12_leastWithin p side (xA N L p side e) zone (wh N T L p side e) M = some (v, M) ∧ ((v = -1 ∧ ∀ n, 1 ≤ n → n < wh N T L p side e → thr side zone (xZ N T L p side e 0 n) = false) ∨ (1 ≤ v ∧ v < wh N T L p side e ∧ thr side zone (xZ N T L p side e 0 v) = true ∧ ∀ n, 1 ≤ n → n < v → thr side zone (xZ N T L p side e 0 n) = false)) := by
  have hw := wh_r W R.2.2.2.2.2 hG
  unfold g_X12_leastWithin g_X12_leastWithin_27
  by_cases c : wh N T L p side e ≤ 1
  · rw [if_pos c]
    exact ⟨-1, rfl, Or.inl ⟨rfl, fun n h1 h2 => by omega⟩⟩
  rw [if_neg c, w64_id (x := wh N T L p side e - 1) (by omega) (by omega), R_zoneWithin R K W hG (u := wh N T L p side e - 1) (by omega)]
  simp only [bindS]
  rw [R_isThere]
  simp only [bindS]
  by_cases ct : thr side zone (xZ N T L p side e 0 (wh N T L p side e - 1)) = true
  · rw [if_pos ct, if_neg (by omega)]
    have h30 : ((2 ^ 30 : Nat) : Int) = 1073741824 := rfl
    obtain ⟨v, v1, v2⟩ := R_within_loop R K W hG zone 30 100000 1 (wh N T L p side e - 1) (by omega) (by omega) (by omega) (by omega) (by omega) ct (fun n h1 h2 => by omega)
    exact ⟨v, v1, Or.inr v2⟩
  · rw [if_neg ct, if_pos rfl]
    refine ⟨-1, rfl, Or.inl ⟨rfl, fun n h1 h2 => ?_⟩⟩
    cases h : thr side zone (xZ N T L p side e 0 n)
    · rfl
    · exact absurd (thr_f hG.2.2.1 (xZ_mono W R.2.2.2.2.2 hG (u := n) (v := wh N T L p side e - 1) (by omega) (by omega) (by omega)) h) ct
theorem R_least_loop {zone : Int} (Zf : Int → Int) : ∀ (m f : Nat) (N : Nat → Int) (L : List (Nat → Int)) (all : Int) (M : MZ), mea side e (xz N p) ≤ (m : Int) → m + 1 < f → PG N p po side e → WF N T L th pe po → KON M → RepR M N T L th pe po → (0 ≤ all ∧ all ≤ 700000000) → (∀ n, 1 ≤ n → n ≤ all → n ≤ 9999999 → thr side zone (Zf n) = false) → (∀ n, all < n → n ≤ 9999999 → Zf n = zl T p side e m N L (n - all)) → ∃ v M', g_X12_leastTo_12 f p side zone e all 0 M = some (v, M') ∧ KON M' ∧ FrS M M' ∧ LST side zone Zf v ∧ 0 ≤ v := by
  intro m
  induction m with
  | zero =>
    intro f N L all M hm hf hG
    have := hG.2.2.2.2
    unfold mea at hm
    rcases hG.2.2.1 with hs | hs
    · rw [if_pos hs] at this hm; omega
    · rw [if_neg (by omega)] at this hm; omega
  | succ m ih =>
    intro f N L all M hm hf hG W K R hall H1 H2
    obtain ⟨f, rfl⟩ : ∃ g, f = g + 1 := ⟨f - 1, by omega⟩
    have h12 := R.2.2.2.2.2
    have e1 : g_X12_leastTo_12 (f + 1) p side zone e all 0 M = g_X12_leastTo_12B (g_X12_leastTo_12 f) p side zone e all 0 M := rfl
    rw [e1]
    unfold g_X12_leastTo_12B g_X12_leastTo_164
    rw [if_pos rfl]
    by_cases ca : 9999999 ≤ all
    · rw [if_pos ca]
      exact ⟨10000000, M, rfl, K, ⟨fun _ _ _ => sameH.rfl, fun _ _ => Eq.refl _, fun _ _ => Eq.refl _⟩, ⟨fun h => by omega, fun _ n h1 h2 => H1 n h1 (by omega) h2⟩, by omega⟩
    rw [if_neg ca]
    have hw := wh_r W h12 hG
    have hf99 := fee_r W hG
    have hg1 : Pgo N T L p po side e 0 1 := hG.go (by omega)
    obtain ⟨hP1, hA, hA0, hA1, hrz⟩ := hg1.pst W h12
    have hms := sMost_r hP1
    rw [R_aim R W.2.2 hG.1 hrz.1 side e]
    simp only [bindS]
    rw [show aim L p side (N (22 + 23 * p + 1)) e = xA N L p side e from rfl, R_wanted R K W hg1]
    simp only [bindS]
    rw [R_feeUpon R hG.1 hf99 (by omega)]
    simp only [bindS]
    rw [show sMost 0 side (xl N L p) (xr N p) (rtz (xA N L p side e)) + cdiv (sMost 0 side (xl N L p) (xr N p) (rtz (xA N L p side e)) * T (5 * p + 2)) (1000 - T (5 * p + 2)) = wh N T L p side e from rfl, w64_id (x := wh N T L p side e) (by omega) (by omega)]
    unfold g_X12_leastTo_58
    obtain ⟨v, v1, v2⟩ := R_leastWithin R K W hG zone
    rw [v1]
    simp only [bindS]
    -- within the stretch
    have hin : ∀ n, 1 ≤ n → n < wh N T L p side e → all + n ≤ 9999999 → Zf (all + n) = xZ N T L p side e 0 n := by
      intro n n1 n2 n3
      rw [H2 (all + n) (by omega) n3, show all + n - all = n by omega, zl, if_neg (by omega), if_neg]
      intro q
      unfold xC at q
      rw [Bool.and_eq_true] at q
      have := (xRe_wh hf99 n).1 q.1
      omega
    rcases v2 with ⟨v2, v3⟩ | ⟨v2, v3, v4, v5⟩
    case inr =>
      rw [if_neg (by omega), w64_id (x := all + v) (by omega) (by omega)]
      refine ⟨all + v, M, rfl, K, ⟨fun _ _ _ => sameH.rfl, fun _ _ => Eq.refl _, fun _ _ => Eq.refl _⟩, ⟨fun h => ⟨by omega, by rw [hin v v2 v3 h]; exact v4, fun n n1 n2 => ?_⟩, fun h n n1 n2 => ?_⟩, by omega⟩
      · by_cases c : n ≤ all
        · exact H1 n n1 c (by omega)
        · have := hin (n - all) (by omega) (by omega) (by omega)
          rw [show all + (n - all) = n by omega] at this
          rw [this]
          exact v5 _ (by omega) (by omega)
      · by_cases c : n ≤ all
        · exact H1 n n1 c (by omega)
        · have := hin (n - all) (by omega) (by omega) (by omega)
          rw [show all + (n - all) = n by omega] at this
          rw [this]
          exact v5 _ (by omega) (by omega)
    case inl =>
      rw [v2, if_pos (by omega)]
      -- the step to the aim
      have hX : ∃ X : Int, X = (if wh N T L p side e ≤ 0 then 1 else wh N T L p side e) := ⟨_, rfl⟩
      obtain ⟨X, eX⟩ := hX
      have hXr : 0 < X ∧ X ≤ 600000000 ∧ wh N T L p side e ≤ X ∧ (0 < wh N T L p side e → X = wh N T L p side e) ∧ (wh N T L p side e ≤ 0 → X = 1) := by
        rw [eX]
        split <;> omega
      have hre : xRe N T L p side e 0 X = true := (xRe_wh hf99 X).2 hXr.2.2.1
      have hgX : Pgo N T L p po side e 0 X := hG.go (by omega)
      obtain ⟨w1, w2, w3, w4⟩ := xN_WF W h12 hgX
      have w3' : xz (xN N T L p side e 0 X) p = xZ N T L p side e 0 X := w3
      have hrz2 := (w1.2.1 p hG.1 hG.2.1).2.1
      obtain ⟨z1, z2, z3⟩ := xZ_rz W h12 hgX
      obtain ⟨M1, a1, a2, a3, a4, a5, a6, a7, a8, a9, a10, a11⟩ := R_steps (R.scL 29 X) (K.scL (by omega) X) W hgX (zL_at _ _ _ _)
      have F1 : FrS M M1 := FrS.trans (M' := uL M 20 29 X) ⟨fun x h1 _ => sameH_uL h1, fun _ _ => Eq.refl _, fun k hk => by rw [zL_uL, if_neg (by omega)]⟩ ⟨a4, a10, a11⟩
      -- at the aim
      have hat : 0 < wh N T L p side e ∨ xE N T L p side e 0 X = true → all + X ≤ 9999999 → Zf (all + X) = xZ N T L p side e 0 X := by
        intro h n3
        rw [H2 (all + X) (by omega) n3, show all + X - all = X by omega, zl, if_neg (by omega)]
        by_cases cc : xC N T L p side e 0 X = true
        · rw [if_pos cc, xLe_wh hre]
          have hE := xCE hre
          rw [cc] at hE
          have hw0 : 0 < wh N T L p side e := by
            rcases h with h | h
            · exact h
            · rw [h] at hE; exact absurd hE (by decide)
          rw [hXr.2.2.2.1 hw0, Int.sub_self]
          rw [hXr.2.2.2.1 hw0] at w3'
          cases m with
          | zero => exact w3'
          | succ m => rw [zl, if_pos (Int.le_refl _)]; exact w3'
        · rw [if_neg cc]
      -- beyond it
      have hbe : ∀ n, all + wh N T L p side e < n → n ≤ 9999999 → all < n → Zf n = if xC N T L p side e 0 X = true then zl T p side e m (xN N T L p side e 0 X) (xL N T L p side e 0 X) (n - (all + wh N T L p side e)) else xZ N T L p side e 0 X := by
        intro n n1 n2 n3
        have hrn : xRe N T L p side e 0 (n - all) = true := (xRe_wh hf99 _).2 (by omega)
        obtain ⟨s1, s2, s3, s4, s5, s6⟩ := x_same hrn hre
        rw [H2 n n3 n2, zl, if_neg (by omega), s2, s4, s5, s6, xLe_wh hrn, show n - all - wh N T L p side e = n - (all + wh N T L p side e) by omega]
      have hu : (if wh N T L p side e ≤ 0 then g_X12_leastTo_98 (g_X12_leastTo_12 f) p side zone e all (wh N T L p side e) 1 M else g_X12_leastTo_98 (g_X12_leastTo_12 f) p side zone e all (wh N T L p side e) (wh N T L p side e) M) = g_X12_leastTo_98 (g_X12_leastTo_12 f) p side zone e all (wh N T L p side e) X M := by
        rw [eX]
        by_cases c : wh N T L p side e ≤ 0
        · rw [if_pos c, if_pos c]
        · rw [if_neg c, if_neg c]
      rw [hu]
      unfold g_X12_leastTo_98
      rw [a1]
      simp only [bindS]
      -- what none at the aim gives
      have none1 : ¬ (0 < wh N T L p side e ∧ thr side zone (xZ N T L p side e 0 X) = true) → ∀ n, 1 ≤ n → n ≤ all + wh N T L p side e → n ≤ 9999999 → thr side zone (Zf n) = false := by
        intro hno n n1 n2 n3
        by_cases c : n ≤ all
        · exact H1 n n1 c n3
        · by_cases c2 : n = all + wh N T L p side e
          · have hw0 : 0 < wh N T L p side e := by omega
            have eX2 := hXr.2.2.2.1 hw0
            have := hat (Or.inl hw0) (by omega)
            rw [eX2] at this
            rw [c2, this]
            rw [eX2] at hno
            cases h : thr side zone (xZ N T L p side e 0 (wh N T L p side e))
            · rfl
            · exact absurd ⟨hw0, h⟩ hno
          · have := hin (n - all) (by omega) (by omega) (by omega)
            rw [show all + (n - all) = n by omega] at this
            rw [this]
            exact v3 _ (by omega) (by omega)
      -- on
      have onw : ¬ (0 < wh N T L p side e ∧ thr side zone (xZ N T L p side e 0 X) = true) → (xE N T L p side e 0 X = true → ¬ thr side zone (xZ N T L p side e 0 X) = true) → ∃ v M', g_X12_leastTo_154 (g_X12_leastTo_12 f) p side zone e all (if xE N T L p side e 0 X = true then 1 else 0) (wh N T L p side e) M1 = some (v, M') ∧ KON M' ∧ FrS M M' ∧ LST side zone Zf v ∧ 0 ≤ v := by
        intro hno hE
        unfold g_X12_leastTo_154
        rw [w64_id (x := all + wh N T L p side e) (by omega) (by omega)]
        by_cases ce : xE N T L p side e 0 X = true
        · rw [if_pos ce]
          obtain ⟨f, rfl⟩ : ∃ g, f = g + 1 := ⟨f - 1, by omega⟩
          have e3 : g_X12_leastTo_12 (f + 1) p side zone e (all + wh N T L p side e) 1 M1 = g_X12_leastTo_12B (g_X12_leastTo_12 f) p side zone e (all + wh N T L p side e) 1 M1 := rfl
          rw [e3]
          unfold g_X12_leastTo_12B g_X12_leastTo_164
          rw [if_neg (by omega)]
          refine ⟨10000000, M1, rfl, a3, F1, ⟨fun h => by omega, fun _ n n1 n2 => ?_⟩, by omega⟩
          by_cases c : n ≤ all + wh N T L p side e
          · exact none1 hno n n1 c n2
          · have hcc : ¬ xC N T L p side e 0 X = true := by
              have h := xCE hre
              rw [ce] at h
              rw [h]
              decide
            have := hbe n (by omega) n2 (by omega)
            rw [if_neg hcc] at this
            rw [this]
            cases h : thr side zone (xZ N T L p side e 0 X)
            · rfl
            · exact absurd h (hE ce)
        · rw [if_neg ce]
          have hcc : xC N T L p side e 0 X = true := by
            have h := xCE hre
            cases h2 : xE N T L p side e 0 X
            · rw [h2] at h; exact h
            · exact absurd h2 ce
          have hm2 : mea side e (xz (xN N T L p side e 0 X) p) ≤ (m : Int) := by
            rw [w3']
            unfold mea at hm ⊢
            rcases hG.2.2.1 with hs | hs
            · rw [if_pos hs] at hm ⊢
              have := ((z2 hs).2 hcc).1
              omega
            · rw [if_neg (by omega)] at hm ⊢
              have := ((z3 hs).2 hcc).1
              omega
          obtain ⟨v, M2, b1, b2, b3, b4, b5⟩ := ih f (xN N T L p side e 0 X) (xL N T L p side e 0 X) (all + wh N T L p side e) M1 hm2 (by omega) (hG.next W h12 (by omega) hcc) w1 a3 a2 (by omega) (none1 hno) (fun n n1 n2 => by
            have := hbe n n1 n2 (by omega)
            rw [if_pos hcc] at this
            exact this)
          exact ⟨v, M2, b1, b2, F1.trans b3, b4, b5⟩
      -- there
      have at124 : (0 < wh N T L p side e ∨ xE N T L p side e 0 X = true) → ∃ v M', g_X12_leastTo_124 (g_X12_leastTo_12 f) p side zone e all (if xE N T L p side e 0 X = true then 1 else 0) (wh N T L p side e) M1 = some (v, M') ∧ KON M' ∧ FrS M M' ∧ LST side zone Zf v ∧ 0 ≤ v := by
        intro hor
        unfold g_X12_leastTo_124 g_X12_leastTo_152
        rw [R_zone a2 hG.1 hrz2]
        simp only [bindS]
        rw [w3, R_isThere]
        simp only [bindS]
        by_cases ct : thr side zone (xZ N T L p side e 0 X) = true
        · rw [if_pos ct, if_neg (by omega)]
          have hv : (if wh N T L p side e ≤ 0 then some (w64 (all + 1), M1) else some (w64 (all + wh N T L p side e), M1)) = some (all + X, M1) := by
            by_cases c : wh N T L p side e ≤ 0
            · rw [if_pos c, hXr.2.2.2.2 c, w64_id (by omega) (by omega)]
            · rw [if_neg c, hXr.2.2.2.1 (by omega), w64_id (by omega) (by omega)]
          rw [hv]
          have hlow : ∀ n, 1 ≤ n → n < all + X → n ≤ 9999999 → thr side zone (Zf n) = false := by
            intro n n1 n2 n3
            by_cases c : n ≤ all
            · exact H1 n n1 c n3
            · have := hin (n - all) (by omega) (by omega) (by omega)
              rw [show all + (n - all) = n by omega] at this
              rw [this]
              exact v3 _ (by omega) (by omega)
          exact ⟨all + X, M1, rfl, a3, F1, ⟨fun h => ⟨by omega, by rw [hat hor h]; exact ct, fun n n1 n2 => hlow n n1 n2 (by omega)⟩, fun h n n1 n2 => hlow n n1 (by omega) n2⟩, by omega⟩
        · rw [if_neg ct, if_pos rfl]
          exact onw (fun q => ct q.2) (fun _ => ct)
      by_cases cw : 0 < wh N T L p side e
      · rw [if_pos cw]
        exact at124 (Or.inl cw)
      · rw [if_neg cw]
        by_cases ce : xE N T L p side e 0 X = true
        · rw [if_neg (by rw [if_pos ce]; omega)]
          exact at124 (Or.inr ce)
        · rw [if_pos (by rw [if_neg ce])]
          exact onw (fun q => cw q.1) (fun q => absurd q ce)
end LR
