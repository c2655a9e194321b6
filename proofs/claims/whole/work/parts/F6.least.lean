/-! least -/
section LE
variable {M : MZ} {N T : Nat → Int} {L : List (Nat → Int)} {th pe po : Int} {p : Nat} {side : Int}
/-- the zone behind a swap of an amount -/
def zAm (N T : Nat → Int) (L : List (Nat → Int)) (p : Nat) (side a : Int) : Int := xz (swap N T L p side a (eT side) 0).1 p
theorem PG_0 (W : WF N T L th pe po) (hp : p < 5) (hq : (p : Int) < po) (hs : side = 0 ∨ side = 1) : PG N p po side (eT side) ∧ ae0 N p side (eT side) = false := by
  have hz := (W.2.1 p hp hq).2.1
  have hz' : 0 ≤ xz N p ∧ xz N p < 40 := hz
  unfold PG ae0 eT
  rcases hs with rfl | rfl
  · rw [if_pos rfl, if_pos rfl, if_pos rfl]
    exact ⟨⟨hp, hq, Or.inl rfl, by omega, by omega⟩, decide_eq_false (by omega)⟩
  · rw [if_neg (by omega), if_neg (by omega), if_neg (by omega)]
    exact ⟨⟨hp, hq, Or.inr rfl, by omega, by omega⟩, decide_eq_false (by omega)⟩
theorem zAm_zl (W : WF N T L th pe po) (h12 : L.length ≤ 12) (hp : p < 5) (hq : (p : Int) < po) (hs : side = 0 ∨ side = 1) {a : Int} (ha : 0 ≤ a ∧ a ≤ 10000000000) : zAm N T L p side a = zl T p side (eT side) 50 N L a := by
  obtain ⟨h1, h2⟩ := PG_0 W hp hq hs
  unfold zAm swap
  rw [h2]
  exact zl_swp 50 N L a 0 0 0 0 h1 W h12 ha
theorem zAm_f (W : WF N T L th pe po) (h12 : L.length ≤ 12) (hp : p < 5) (hq : (p : Int) < po) (hs : side = 0 ∨ side = 1) {a b : Int} (ha : 0 ≤ a) (hab : a ≤ b) (hb : b ≤ 10000000000) {zone : Int} (h : thr side zone (zAm N T L p side a) = true) : thr side zone (zAm N T L p side b) = true := by
  rw [zAm_zl W h12 hp hq hs (by omega)] at h ⊢
  exact thr_f hs (zl_mono 50 N L a b (PG_0 W hp hq hs).1 W h12 ha hab hb) h
theorem K_comesTo (R : Rep true M 78 N T L th pe po) (W : WF N T L th pe po) (hp : p < 5) (hq : (p : Int) < po) (hs : side = 0 ∨ side = 1) {a : Int} (ha : 0 < a ∧ a ≤ 10000000000) (zone : Int) : ∃ M', g_X11_comesTo p side a zone M = some (if thr side zone (zAm N T L p side a) = true then 1 else 0, M') ∧ (∀ x, x ≠ 4 → sameH M M' x) := by
  obtain ⟨M', ae, p1, p2, p3⟩ := K_pour0 b78 R W (hp_b (a := a) hp hq hs) ha (-1)
  refine ⟨M', ?_, p3⟩
  have p1' : g_X10_pour 78 (-1) p side a (if side = 0 then 0 else 40) 0 M = some ((), M') := p1
  have e8 : zI M' 4 8 = zAm N T L p side a := p2.1.2.2.2.2.2.2.1
  unfold g_X11_comesTo g_X11_comesTo_62
  rw [K_lastTick]
  simp only [bindS]
  rw [p1']
  simp only [bindS]
  rw [e8]
  generalize zAm N T L p side a = z
  unfold thr
  by_cases c0 : side = 0
  · rw [if_pos c0, if_pos c0]
    by_cases c : zone < z
    · rw [if_pos c, if_pos (Or.inl trivial), if_neg (by rw [decide_eq_true_eq]; omega)]
    · rw [if_neg c, if_pos (Or.inr trivial), if_pos (by rw [decide_eq_true_eq]; omega)]
  · rw [if_neg c0, if_neg c0]
    by_cases c : z < zone
    · rw [if_pos c, if_pos (Or.inl trivial), if_neg (by rw [decide_eq_true_eq]; omega)]
    · rw [if_neg c, if_pos (Or.inr trivial), if_pos (by rw [decide_eq_true_eq]; omega)]
theorem K_least_loop (W : WF N T L th pe po) (hp : p < 5) (hq : (p : Int) < po) (hs : side = 0 ∨ side = 1) (zone : Int) : ∀ (d f i : Nat) (low high : Int) (M : MZ), high - low < ((2 ^ d : Nat) : Int) → d < f → i + d < 64 → 1 ≤ low → low ≤ high → high ≤ 9999999 → Rep true M 78 N T L th pe po → thr side zone (zAm N T L p side high) = true → (∀ n, 1 ≤ n → n < low → thr side zone (zAm N T L p side n) = false) → ∃ v M', g_X11_least_54 f p side zone low high i M = some (v, M') ∧ (1 ≤ v ∧ v ≤ 9999999) ∧ thr side zone (zAm N T L p side v) = true ∧ (∀ n, 1 ≤ n → n < v → thr side zone (zAm N T L p side n) = false) ∧ (∀ x, x ≠ 4 → sameH M M' x) := by
  intro d
  induction d with
  | zero =>
    intro f i low high M hd hf hi h1 h2 h3 R ht hn
    obtain ⟨f, rfl⟩ : ∃ g, f = g + 1 := ⟨f - 1, by omega⟩
    have e1 : g_X11_least_54 (f + 1) p side zone low high i M = g_X11_least_54B (g_X11_least_54 f) p side zone low high i M := rfl
    rw [e1]
    unfold g_X11_least_54B g_X11_least_108
    have : ((2 ^ 0 : Nat) : Int) = 1 := rfl
    obtain rfl : low = high := by omega
    rw [if_neg (by omega), if_pos (Int.le_refl _)]
    exact ⟨low, M, rfl, ⟨h1, h3⟩, ht, hn, fun _ _ => sameH.rfl⟩
  | succ d ih =>
    intro f i low high M hd hf hi h1 h2 h3 R ht hn
    obtain ⟨f, rfl⟩ : ∃ g, f = g + 1 := ⟨f - 1, by omega⟩
    have e1 : g_X11_least_54 (f + 1) p side zone low high i M = g_X11_least_54B (g_X11_least_54 f) p side zone low high i M := rfl
    rw [e1]
    unfold g_X11_least_54B g_X11_least_108
    rw [if_neg (by omega)]
    by_cases c : high ≤ low
    · obtain rfl : low = high := by omega
      rw [if_pos (Int.le_refl _)]
      exact ⟨low, M, rfl, ⟨h1, h3⟩, ht, hn, fun _ _ => sameH.rfl⟩
    have e2 : ((2 ^ (d + 1) : Nat) : Int) = 2 * ((2 ^ d : Nat) : Int) := by rw [Nat.pow_succ]; omega
    rw [e2] at hd
    rw [if_neg c, w32_id (x := low + high) (by omega) (by omega), Int.tdiv_eq_ediv_of_nonneg (by omega), w32_id (x := (low + high) / 2) (by omega) (by omega)]
    generalize em : (low + high) / 2 = mid at *
    have hm : low ≤ mid ∧ mid < high ∧ mid - low < ((2 ^ d : Nat) : Int) ∧ high - (mid + 1) < ((2 ^ d : Nat) : Int) := by omega
    obtain ⟨M1, c1, c2⟩ := K_comesTo R W hp hq hs (a := mid) (by omega) zone
    have R1 : Rep true M1 78 N T L th pe po := R.not4 b78 c2
    unfold g_X11_least_77 g_X11_least_102
    rw [c1]
    simp only [bindS]
    rw [w32_id (x := (i : Int) + 1) (by omega) (by omega), show (i : Int) + 1 = ((i + 1 : Nat) : Int) by omega]
    by_cases cm : thr side zone (zAm N T L p side mid) = true
    · rw [if_pos cm, if_neg (by omega)]
      obtain ⟨v, M2, d1, d2, d3, d4, d5⟩ := ih f (i + 1) low mid M1 hm.2.2.1 (by omega) (by omega) h1 hm.1 (by omega) R1 cm hn
      exact ⟨v, M2, d1, d2, d3, d4, fun x hx => (c2 x hx).trans (d5 x hx)⟩
    · rw [if_neg cm, if_pos rfl, w32_id (x := mid + 1) (by omega) (by omega)]
      obtain ⟨v, M2, d1, d2, d3, d4, d5⟩ := ih f (i + 1) (mid + 1) high M1 hm.2.2.2 (by omega) (by omega) (by omega) (by omega) h3 R1 ht (fun n n1 n2 => by
        cases h : thr side zone (zAm N T L p side n)
        · rfl
        · exact absurd (zAm_f W R.2.2.2.2.2.2 hp hq hs (a := n) (b := mid) (by omega) (by omega) (by omega) h) cm)
      exact ⟨v, M2, d1, d2, d3, d4, fun x hx => (c2 x hx).trans (d5 x hx)⟩
theorem q_least {M : MZ} (h : IV M) (p side zone : Int) : ∃ r M1 M2, g_X11_least p side zone M = some (r, M1) ∧ g_X12_least p side zone M1 = some (r, M2) ∧ IV M2 := by
  have h0 := h
  obtain ⟨N, T, L, th, pe, po, R, RR, W, hM, hk, ht, hH, K, hA⟩ := h
  have hpe := W.1.r
  have h12 := R.2.2.2.2.2.2
  by_cases hall : (0 ≤ p ∧ p < po) ∧ (side = 0 ∨ side = 1) ∧ (0 ≤ zone ∧ zone < 40)
  · obtain ⟨hp, hs, hz⟩ := hall
    obtain ⟨p, rfl⟩ := zR_nat hp.1
    have hp5 : p < 5 := by omega
    obtain ⟨M0, c1, c2⟩ := K_comesTo R W hp5 hp.2 hs (a := 9999999) (by omega) zone
    have R0 : Rep true M0 78 N T L th pe po := R.not4 b78 c2
    -- what the class says
    have hK : ∃ r M1, g_X11_least p side zone M = some (r, M1) ∧ (∀ x, x ≠ 4 → sameH M M1 x) ∧ ((r = -2 ∧ thr side zone (zAm N T L p side 9999999) = false) ∨ ((1 ≤ r ∧ r ≤ 9999999) ∧ thr side zone (zAm N T L p side r) = true ∧ (∀ n, 1 ≤ n → n < r → thr side zone (zAm N T L p side n) = false))) := by
      unfold g_X11_least g_X11_least_25
      rw [K_poolAt_y b78 hp5 (by rw [R.1.2.2.1]; exact hp.2)]
      simp only [bindS]
      rw [if_neg (by omega), K_isSide]
      simp only [bindS, bI_0]
      rw [if_neg (fun q => q hs), K_isZone]
      simp only [bindS, bI_0]
      rw [if_neg (fun q => q hz), c1]
      simp only [bindS]
      by_cases cm : thr side zone (zAm N T L p side 9999999) = true
      · rw [if_pos cm, if_neg (by omega)]
        have h24 : ((2 ^ 24 : Nat) : Int) = 16777216 := rfl
        obtain ⟨v, M1, d1, d2, d3, d4, d5⟩ := K_least_loop W hp5 hp.2 hs zone 24 100000 0 1 9999999 M0 (by omega) (by omega) (by omega) (by omega) (by omega) (by omega) R0 cm (fun n n1 n2 => by omega)
        exact ⟨v, M1, d1, fun x hx => (c2 x hx).trans (d5 x hx), Or.inr ⟨d2, d3, d4⟩⟩
      · rw [if_neg cm, if_pos rfl]
        exact ⟨-2, M0, rfl, c2, Or.inl ⟨rfl, by
          cases h : thr side zone (zAm N T L p side 9999999)
          · rfl
          · exact absurd h cm⟩⟩
    obtain ⟨r, M1, k1, k2, k3⟩ := hK
    have RR1 : RepR M1 N T L th pe po := RR.same (fun x h1 h2 => k2 x (by omega))
    have K1 : KON M1 := K.mv (fun x hx => k2 x (by omega))
    obtain ⟨M2, a1, a2, a3, a4, a5⟩ := R_keepR RR1 K1 (lv := 0) (by omega)
    have a1' : g_X12_keeps 0 M1 = some ((), M2) := a1
    obtain ⟨g1, g2⟩ := PG_0 W hp5 hp.2 hs
    have hmea : mea side (eT side) (xz N p) ≤ ((50 : Nat) : Int) := by
      have hz' : 0 ≤ xz N p ∧ xz N p < 40 := (W.2.1 p hp5 hp.2).2.1
      unfold mea eT
      rcases hs with rfl | rfl
      · rw [if_pos rfl, if_pos rfl]; omega
      · rw [if_neg (by omega), if_neg (by omega)]; omega
    obtain ⟨v, M3, b1, b2, b3, b4, b5⟩ := R_least_loop (zone := zone) (fun n => zAm N T L p side n) 50 100000 N L 0 M2 hmea (by omega) g1 W a3 a2 (by omega) (fun n n1 n2 => by omega) (fun n n1 n2 => by
      rw [show n - 0 = n by omega]
      exact zAm_zl W h12 hp5 hp.2 hs (by omega))
    obtain ⟨M4, l1, l2, l3⟩ := R_laysBack (lv := 0) (by omega) M3
    have l1' : g_X12_laysBack 0 M3 = some ((), M4) := l1
    have b1' : g_X12_leastTo p side zone M2 = some (v, M3) := by
      unfold g_X12_leastTo
      rw [R_endOf]
      simp only [bindS]
      exact b1
    have hv : (if 9999999 < v then (-2 : Int) else w32 v) = r := by
      rcases k3 with ⟨e1, e2⟩ | ⟨e1, e2, e3⟩
      · by_cases c : 9999999 < v
        · rw [if_pos c, e1]
        · obtain ⟨x1, x2, x3⟩ := b4.1 (by omega)
          have := zAm_f W h12 hp5 hp.2 hs (a := v) (b := 9999999) (by omega) (by omega) (by omega) x2
          rw [e2] at this
          exact absurd this (by decide)
      · by_cases c : 9999999 < v
        · have := b4.2 c r e1.1 e1.2
          have e2' : thr side zone ((fun n => zAm N T L p side n) r) = true := e2
          rw [e2'] at this
          exact absurd this (by decide)
        · obtain ⟨x1, x2, x3⟩ := b4.1 (by omega)
          rw [if_neg c, w32_id (by omega) (by omega)]
          have x2' : thr side zone (zAm N T L p side v) = true := x2
          rcases Int.lt_trichotomy v r with q | q | q
          · rw [e3 v x1 q] at x2'
            exact absurd x2' (by decide)
          · exact q
          · have := x3 r e1.1 q
            have e2' : thr side zone ((fun n => zAm N T L p side n) r) = true := e2
            rw [e2'] at this
            exact absurd this (by decide)
    have RR4 : RepR M4 N T L th pe po := RR1.back a4 a5 (fun k hk => b3.2.1 k (by omega)) (b3.1 22 (by omega) (by omega)) (fun k _ _ => (b3.1 24 (by omega) (by omega) k).2.1) l2 l3
    have K4 : KON M4 := b2.mv (fun x hx => l2 x (by omega))
    refine ⟨r, M1, M4, k1, ?_, IV_mk3 (fun x h1 _ _ => k2 x h1) (HP.same (fun i _ => (k2 146 (by omega) i).2.2) hH) (fun x h1 h2 h3 => ((a4 x h3).trans (b3.1 x h1 h2)).trans (l2 x h2)) (by rw [(l2 20 (by omega) 8).1, b3.2.1 8 (by omega), (a4 20 (by omega) 8).1]) R RR4 W hM hk ht K4 hA⟩
    unfold g_X12_least g_X12_least_27 g_X12_least_65
    rw [R_isPool, RR1.1.2.2]
    simp only [bindS, bI_0]
    rw [if_neg (fun q => q hp), R_isSide]
    simp only [bindS, bI_0]
    rw [if_neg (fun q => q hs), R_isIn]
    simp only [bindS, bI_0]
    rw [if_neg (fun q => q (by omega)), a1']
    simp only [bindS]
    rw [b1']
    simp only [bindS]
    rw [l1']
    simp only [bindS]
    rw [← hv]
    by_cases c : 9999999 < v
    · rw [if_pos c, if_pos c]
    · rw [if_neg c, if_neg c]
  · refine ⟨-1, M, M, ?_, ?_, h0⟩
    · unfold g_X11_least g_X11_least_25
      by_cases c1 : 0 ≤ p ∧ p < po
      · obtain ⟨p, rfl⟩ := zR_nat c1.1
        rw [K_poolAt_y b78 (by omega) (by rw [R.1.2.2.1]; exact c1.2)]
        simp only [bindS]
        rw [if_neg (by omega), K_isSide]
        simp only [bindS, bI_0]
        by_cases c2 : side = 0 ∨ side = 1
        · rw [if_neg (fun q => q c2), K_isZone]
          simp only [bindS, bI_0]
          rw [if_pos (fun q => hall ⟨c1, c2, q⟩)]
        · rw [if_pos c2]
      · rw [K_poolAt_n b78 (by rw [R.1.2.2.1]; exact c1)]
        simp only [bindS]
        rw [if_pos trivial]
    · unfold g_X12_least g_X12_least_27
      rw [R_isPool, RR.1.2.2]
      simp only [bindS, bI_0]
      by_cases c1 : 0 ≤ p ∧ p < po
      · rw [if_neg (fun q => q c1), R_isSide]
        simp only [bindS, bI_0]
        by_cases c2 : side = 0 ∨ side = 1
        · rw [if_neg (fun q => q c2), R_isIn]
          simp only [bindS, bI_0]
          rw [if_pos (fun q => hall ⟨c1, c2, by omega⟩)]
        · rw [if_pos c2]
      · rw [if_pos c1]
theorem ok_least (a b c : Int32) : SO INV (f_X11_least a b c) (f_X12_least a b c) := SO_of (IV := IV) (fun _ => l_X11_least rfl rfl rfl rfl) (fun _ => l_X12_least rfl rfl rfl rfl) (fun _ h => q_least h _ _ _)
end LE
