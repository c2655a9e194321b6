/-! quotes -/
section QT
variable {M : MZ} {b : Nat} {kk : Bool} {N T : Nat → Int} {L : List (Nat → Int)} {th pe po : Int}
theorem ptm_50 {side e z left : Int} (hz : 0 ≤ z ∧ z < 40) (he : 0 ≤ e ∧ e ≤ 40) (ae : Bool) (r g pd fs cr : Int) : ptm side e ae (r, z, left, g, pd, fs, cr) ≤ ((50 : Nat) : Int) := by
  unfold ptm
  split
  · omega
  · split
    · show z - e + 1 ≤ _; omega
    · show e - z ≤ _; omega
theorem ae0_ge {p : Nat} {side e : Int} (hs : side = 0 ∨ side = 1) (q : ae0 N p side e = false) : if side = 0 then e ≤ xz N p else xz N p < e := by
  unfold ae0 at q
  rcases hs with rfl | rfl
  · rw [if_pos rfl] at q ⊢
    have := of_decide_eq_false q
    omega
  · rw [if_neg (by omega)] at q ⊢
    have := of_decide_eq_false q
    omega
/-- pouring on paper -/
theorem K_pour0 (hb : bOK b) (R : Rep kk M b N T L th pe po) (W : WF N T L th pe po) {p : Nat} {side e amount : Int} (hpb : Pbg p po side e 0) (ha : 0 < amount ∧ amount ≤ 10000000000) (per : Int) : ∃ (M' : MZ) (ae : Bool), g_X10_pour b per p side amount e 0 M = some ((), M') ∧ TP M' b p side 0 ae (toP p (swap N T L p side amount e 0)) ∧ (∀ x, x ≠ 4 → sameH M M' x) := by
  have hpb' := hpb
  obtain ⟨hp, hq, hs, _, he⟩ := hpb'
  have hrz : Rzz (xr N p) (xz N p) := (W.2.1 p hp hq).2
  have hz := hrz.1
  have b1 := rtz_r (t := xz N p) (by omega) (by omega)
  have b2 := rtz_r (t := xz N p + 1) (by omega) (by omega)
  have hr := hrz.2
  have hT : ∀ p : Nat, p < 5 → (p : Int) < po → Told T th p := fun p h1 h2 => (W.2.1 p h1 h2).1
  obtain ⟨M1, s1, s2, s3⟩ := K_start0 hb R hp hq hs amount
  have ew1 : w32 (N (22 + 23 * p)) = xr N p := w32_id (by show _ ≤ xr N p; omega) (by show xr N p ≤ _; omega)
  have ew2 : w32 (N (22 + 23 * p + 1)) = xz N p := w32_id (by show _ ≤ xz N p; omega) (by show xz N p ≤ _; omega)
  rw [ew1, ew2] at s2
  have m3 : zI M1 4 3 = side := s2.1.2.2.2.1
  have m8 : zI M1 4 8 = xz N p := s2.1.2.2.2.2.2.2.1
  have S2 : TP (uI M1 4 6 (if ae0 N p side e then 1 else 0)) b p side 0 (ae0 N p side e) (xr N p, xz N p, amount, 0, 0, 0, 0) := by
    obtain ⟨⟨a0, a1, a2, a3, a4, a5, a8, a10, a11⟩, a12, a13, a9, a6⟩ := s2
    refine ⟨⟨a0, a1, ?_, ?_, ?_, ?_, ?_, a10, a11⟩, a12, a13, ?_, zI_at _ _ _ _⟩
    · rw [zI_uI, if_neg (by omega)]; exact a2
    · rw [zI_uI, if_neg (by omega)]; exact a3
    · rw [zI_uI, if_neg (by omega)]; exact a4
    · rw [zI_uI, if_neg (by omega)]; exact a5
    · rw [zI_uI, if_neg (by omega)]; exact a8
    · rw [zI_uI, if_neg (by omega)]; exact a9
  have F2 : ∀ x, x ≠ 4 → sameH M (uI M1 4 6 (if ae0 N p side e then 1 else 0)) x := fun x hx => (s3 x hx).trans (sameH_uI hx)
  obtain ⟨M2, ae, c1, c2, c3, c4⟩ := K_paper_loop hb hT W.2.2 hpb per 50 100000 0 _ (ae0 N p side e) (xr N p, xz N p, amount, 0, 0, 0, 0) (ptm_50 hz he _ _ _ _ _ _) (by omega) (by omega) (R.not4 hb F2) S2 ⟨fun q => ae0_ge hs q, by show 0 ≤ amount ∧ amount ≤ 10000000000; omega, hrz⟩
  rw [← swap_pt W R.2.2.2.2.2.2 hpb ha] at c2
  refine ⟨M2, ae, ?_, c2, fun x hx => (F2 x hx).trans (c3 x hx)⟩
  have c1' : g_X10_pour_61 100000 per e 0 (uI M1 4 6 (if ae0 N p side e then 1 else 0)) = some ((), M2) := by
    unfold loopO at c1
    rw [if_pos rfl, show ((0 : Nat) : Int) = 0 from rfl] at c1
    exact c1
  unfold g_X10_pour g_X10_pour_55
  rw [s1]
  simp only [bindS]
  rw [if_neg (show ¬ (1 : Int) = 0 by omega), m3, m8]
  rcases hs with rfl | rfl
  · have ha0 : ae0 N p 0 e = decide (xz N p < e) := if_pos rfl
    rw [ha0] at c1'
    rw [if_pos rfl]
    by_cases c : e ≤ xz N p
    · rw [if_pos c, if_pos (Or.inl trivial)]
      rw [decide_eq_false (show ¬ xz N p < e by omega)] at c1'
      exact c1'
    · rw [if_neg c, if_pos (Or.inr trivial)]
      rw [decide_eq_true (show xz N p < e by omega)] at c1'
      exact c1'
  · have ha0 : ae0 N p 1 e = decide (e ≤ xz N p) := if_neg (by omega)
    rw [ha0] at c1'
    rw [if_neg (show ¬ (1 : Int) = 0 by omega)]
    by_cases c : xz N p < e
    · rw [if_pos c, if_pos (Or.inl trivial)]
      rw [decide_eq_false (show ¬ e ≤ xz N p by omega)] at c1'
      exact c1'
    · rw [if_neg c, if_pos (Or.inr trivial)]
      rw [decide_eq_true (show e ≤ xz N p by omega)] at c1'
      exact c1'
theorem ae0_end {p : Nat} {side : Int} (hs : side = 0 ∨ side = 1) (hz : 0 ≤ xz N p ∧ xz N p < 40) : ae0 N p side (if side = 0 then 0 else 40) = false := by
  unfold ae0
  rcases hs with rfl | rfl
  · rw [if_pos rfl, if_pos rfl]
    exact decide_eq_false (by omega)
  · rw [if_neg (by omega), if_neg (by omega)]
    exact decide_eq_false (by omega)
theorem K_drain0 (hb : bOK b) (R : Rep kk M b N T L th pe po) (W : WF N T L th pe po) {p : Nat} {side amount : Int} (hp : p < 5) (hq : (p : Int) < po) (hs : side = 0 ∨ side = 1) (ha : 0 < amount ∧ amount ≤ 10000000000) (per : Int) : ∃ (M' : MZ) (ae : Bool), g_X10_drain b per p side amount 0 M = some ((), M') ∧ TP M' b p side 0 ae (toP p (swap N T L p side amount (if side = 0 then 0 else 40) 1)) ∧ (∀ x, x ≠ 4 → sameH M M' x) := by
  have hrz : Rzz (xr N p) (xz N p) := (W.2.1 p hp hq).2
  have hz := hrz.1
  have b1 := rtz_r (t := xz N p) (by omega) (by omega)
  have b2 := rtz_r (t := xz N p + 1) (by omega) (by omega)
  have hr := hrz.2
  have hT : ∀ p : Nat, p < 5 → (p : Int) < po → Told T th p := fun p h1 h2 => (W.2.1 p h1 h2).1
  have he : 0 ≤ (if side = 0 then (0 : Int) else 40) ∧ (if side = 0 then (0 : Int) else 40) ≤ 40 := by split <;> omega
  have hpb : Pbg p po side (if side = 0 then 0 else 40) 1 := ⟨hp, hq, hs, Or.inr rfl, he⟩
  obtain ⟨M1, s1, s2, s3⟩ := K_start0 hb R hp hq hs amount
  have ew1 : w32 (N (22 + 23 * p)) = xr N p := w32_id (by show _ ≤ xr N p; omega) (by show xr N p ≤ _; omega)
  have ew2 : w32 (N (22 + 23 * p + 1)) = xz N p := w32_id (by show _ ≤ xz N p; omega) (by show xz N p ≤ _; omega)
  rw [ew1, ew2] at s2
  have hae := ae0_end (N := N) hs hz
  have m3 : zI M1 4 3 = side := s2.1.2.2.2.1
  have hge := ae0_ge hs hae
  obtain ⟨M2, ae, c1, c2, c3, c4⟩ := K_paper_loop hb hT W.2.2 hpb per 50 100000 0 M1 false (xr N p, xz N p, amount, 0, 0, 0, 0) (ptm_50 hz he _ _ _ _ _ _) (by omega) (by omega) (R.not4 hb s3) s2 ⟨fun _ => hge, by show 0 ≤ amount ∧ amount ≤ 10000000000; omega, hrz⟩
  have hsp := swap_pt W R.2.2.2.2.2.2 hpb ha
  rw [hae] at hsp
  rw [← hsp] at c2
  refine ⟨M2, ae, ?_, c2, fun x hx => (s3 x hx).trans (c3 x hx)⟩
  have c1' : g_X10_drain_28 100000 per (if side = 0 then 0 else 40) 0 M1 = some ((), M2) := by
    unfold loopO at c1
    rw [if_neg (show ¬ (1 : Int) = 0 by omega), show ((0 : Nat) : Int) = 0 from rfl] at c1
    exact c1
  unfold g_X10_drain
  rw [s1]
  simp only [bindS]
  rw [if_neg (show ¬ (1 : Int) = 0 by omega), m3, K_lastTick]
  simp only [bindS]
  exact c1'
/-- the reference tries a swap and lays back -/
theorem R_try (R : RepR M N T L th pe po) (K : KON M) (W : WF N T L th pe po) {p : Nat} {side e o amount : Int} (hpb : Pbg p po side e o) (ha : 0 < amount ∧ amount ≤ 10000000000) : ∃ M1 M2 M3 : MZ, g_X12_keeps 0 M = some ((), M1) ∧ g_X12_swaps p side amount e o M1 = some ((), M2) ∧ g_X12_zoneNow p M2 = some ((toP p (swap N T L p side amount e o)).2.1, M2) ∧ g_X12_laysBack 0 M2 = some ((), M3) ∧ RepR M3 N T L th pe po ∧ KON M3 ∧ zL M3 20 29 = (toP p (swap N T L p side amount e o)).2.2.1 ∧ zL M3 20 30 = (toP p (swap N T L p side amount e o)).2.2.2.2.1 ∧ zL M3 20 31 = (toP p (swap N T L p side amount e o)).2.2.2.1 ∧ zL M3 20 32 = (toP p (swap N T L p side amount e o)).2.2.2.2.2.1 ∧ zI M3 20 33 = (toP p (swap N T L p side amount e o)).2.2.2.2.2.2 ∧ (∀ x, x ≠ 20 → x ≠ 23 → x ≠ 24 → sameH M M3 x) ∧ (∀ k, k ≠ 33 → zI M3 20 k = zI M 20 k) ∧ (∀ k, k < 29 ∨ 32 < k → zL M3 20 k = zL M 20 k) := by
  obtain ⟨M1, k1, k2, k3⟩ := R_keeps (lv := 0) (by omega) M
  have R1 : RepR M1 N T L th pe po := by
    obtain ⟨⟨a0, a1, a2⟩, hT, hN, hn, hL, h12⟩ := R
    exact ⟨⟨by rw [(k2 20 (by omega) _).1]; exact a0, by rw [(k2 20 (by omega) _).1]; exact a1, by rw [(k2 20 (by omega) _).1]; exact a2⟩, fun j hj => by rw [(k2 22 (by omega) _).1]; exact hT j hj, fun j hj => by rw [(k2 23 (by omega) _).2.1]; exact hN j hj, by rw [(k2 23 (by omega) _).2.1]; exact hn, fun i hi w hw => by rw [(k2 23 (by omega) _).2.1]; exact hL i hi w hw, h12⟩
  have K1 : KON M1 := K.mv (fun x hx => k2 x (by omega))
  obtain ⟨M2, s1, s2, s3, s4, s5, s6, s7⟩ := R_swaps R1 K1 W hpb ha
  obtain ⟨M3, l1, l2, l3⟩ := R_laysBack (lv := 0) (by omega) M2
  obtain ⟨hp, hq, hs, ho, he⟩ := hpb
  have hrz : Rzz (xr (swap N T L p side amount e o).1 p) (xz (swap N T L p side amount e o).1 p) := (s3.2.1 p hp hq).2
  have R3 : RepR M3 N T L th pe po := R.back k2 k3 (fun k hk => s5.2.1 k (by omega)) (s5.1 22 (by omega) (by omega)) (fun k _ _ => (s5.1 24 (by omega) (by omega) k).2.1) l2 l3
  have e20 := fun k => (l2 20 (by omega) k)
  refine ⟨M1, M2, M3, k1, s1, R_zone s2.1 hp hrz.1, l1, R3, s4.mv (fun x hx => l2 x (by omega)), ?_, ?_, ?_, ?_, ?_, fun x x1 x2 x3 => ((k2 x x3).trans (s5.1 x x1 x2)).trans (l2 x x2), fun k hk => ?_, fun k hk => ?_⟩
  · rw [(e20 29).2.1, s2.2.1]; rfl
  · rw [(e20 30).2.1, s2.2.2.1]; rfl
  · rw [(e20 31).2.1, s2.2.2.2.1]; rfl
  · rw [(e20 32).2.1, s2.2.2.2.2.1]; rfl
  · rw [(e20 33).1, s2.2.2.2.2.2]; rfl
  · rw [(e20 k).1, s5.2.1 k hk, (k2 20 (by omega) k).1]
  · rw [(e20 k).2.1, s5.2.2 k hk, (k2 20 (by omega) k).2.1]
end QT
/-- only the trade, and what the reference scribbles, changed -/
theorem IV_ask {M M1 M3 : MZ} (h : IV M) (h1 : ∀ x, x ≠ 4 → sameH M M1 x) {N T : Nat → Int} {L : List (Nat → Int)} {th pe po : Int} (R : Rep true M 78 N T L th pe po) (W : WF N T L th pe po) (hM : Mny N T L po) (hk : ∀ p : Nat, p < 5 → (p : Int) < po → Mrk N p) (ht : 0 ≤ N 0 ∧ N 0 ≤ 9999999) (R3 : RepR M3 N T L th pe po) (K3 : KON M3) (h3 : ∀ x, x ≠ 20 → x ≠ 23 → x ≠ 24 → sameH M1 M3 x) (i3 : ∀ k, k ≠ 33 → zI M3 20 k = zI M1 20 k) : IV M3 := by
  obtain ⟨_, _, _, _, _, _, _, _, _, _, _, _, hH, _, hA⟩ := h
  have hs : ∀ x, x ≠ 4 → x ≠ 20 → x ≠ 23 → x ≠ 24 → sameH M M3 x := fun x a b c d => (h1 x a).trans (h3 x b c d)
  refine ⟨N, T, L, th, pe, po, R.same (fun x a _ => hs x (by omega) (by omega) (by omega) (by omega)), R3, W, hM, hk, ht, HP.same (fun i _ => (hs 146 (by omega) (by omega) (by omega) (by omega) i).2.2) hH, K3, ?_⟩
  have e2 := hs 2 (by omega) (by omega) (by omega) (by omega)
  have e3 := hs 3 (by omega) (by omega) (by omega) (by omega)
  have e25 := hs 25 (by omega) (by omega) (by omega) (by omega)
  exact ⟨by rw [(e2 0).1]; exact hA.1, by rw [i3 8 (by omega), (h1 20 (by omega) 8).1, (e2 0).1]; exact hA.2.1, fun j hj => by rw [(e25 j).1, (e3 j).1]; exact hA.2.2 j hj⟩
theorem K_canAsk (M : MZ) {N T : Nat → Int} {L : List (Nat → Int)} {th pe po : Int} {kk : Bool} (R : Rep kk M 78 N T L th pe po) (hpo : po ≤ 5) (p side amount : Int) : g_X11_canAsk p side amount M = some (bI ((0 ≤ p ∧ p < po) ∧ (side = 0 ∨ side = 1) ∧ (1 ≤ amount ∧ amount ≤ 9999999)), M) := by
  unfold g_X11_canAsk g_X11_canAsk_29 g_X11_canAsk_30
  by_cases hp : 0 ≤ p ∧ p < po
  · obtain ⟨p, rfl⟩ := zR_nat hp.1
    rw [K_poolAt_y b78 (by omega) (by rw [R.1.2.2.1]; exact hp.2)]
    simp only [bindS, K_isSide, K_isAmount, bI_0]
    rw [if_neg (by omega)]
    by_cases c1 : side = 0 ∨ side = 1
    · rw [if_neg (fun q => q c1)]
      by_cases c2 : 1 ≤ amount ∧ amount ≤ 9999999
      · rw [if_neg (fun q => q c2), if_pos (Or.inr trivial), bI_pos ⟨hp, c1, c2⟩]
      · rw [if_pos c2, if_pos (Or.inl trivial), bI_neg (fun q => c2 q.2.2)]
    · rw [if_pos c1, if_pos (Or.inl trivial), bI_neg (fun q => c1 q.2.1)]
  · rw [K_poolAt_n b78 (by rw [R.1.2.2.1]; exact hp)]
    simp only [bindS]
    rw [if_pos trivial, if_pos (Or.inl trivial), bI_neg (fun q => hp q.1)]
theorem q_quoteIn {M : MZ} (h : IV M) (p side amount e w : Int) : ∃ r M1 M2, g_X11_quoteIn p side amount e w M = some (r, M1) ∧ g_X12_quoteIn p side amount e w M1 = some (r, M2) ∧ IV M2 := by
  have h0 := h
  obtain ⟨N, T, L, th, pe, po, R, RR, W, hM, hk, ht, hH, K, hA⟩ := h
  have hz := W.1.r
  unfold g_X11_quoteIn g_X11_quoteIn_18 g_X12_quoteIn g_X12_quoteIn_53 g_X12_quoteIn_139
  rw [K_canAsk M R (by omega)]
  simp only [bindS, bI_0, K_isTick]
  by_cases hc : ((0 ≤ p ∧ p < po) ∧ (side = 0 ∨ side = 1) ∧ (1 ≤ amount ∧ amount ≤ 9999999)) ∧ (0 ≤ e ∧ e ≤ 40)
  · obtain ⟨⟨hp, hs, ha⟩, he⟩ := hc
    rw [if_neg (fun q => q ⟨hp, hs, ha⟩), if_neg (fun q => q he)]
    obtain ⟨p, rfl⟩ := zR_nat hp.1
    have hpb : Pbg p po side e 0 := ⟨by omega, hp.2, hs, Or.inl rfl, he⟩
    obtain ⟨M1, ae, a1, a2, a3⟩ := K_pour0 b78 R W (amount := amount) hpb (by omega) (-1)
    have RR1 : RepR M1 N T L th pe po := RR.same (fun x x1 x2 => a3 x (by omega))
    have K1 : KON M1 := K.mv (fun x hx => a3 x (by omega))
    rw [a1]
    simp only [bindS]
    by_cases hw : 0 ≤ w ∧ w ≤ 4
    · obtain ⟨M2, M3, M4, k1, k2, k3, k4, R4, K4, t29, t30, t31, t32, t33, f1, f2, f3⟩ := R_try RR1 K1 W (amount := amount) hpb (by omega)
      have hIV := IV_ask h0 a3 R W hM hk ht R4 K4 f1 f2
      obtain ⟨⟨s0, s1, s2, s3, s4, s5, s8, s10, s11⟩, s12, s13, s9, s6⟩ := a2
      refine ⟨if w = 0 then w32 (zL M1 4 11) else if w = 1 then w32 (zL M1 4 10) else if w = 2 then w32 (zL M1 4 13) else if w = 3 then zI M1 4 8 else zI M1 4 9, M1, M4, ?_, ?_, hIV⟩
      · by_cases c0 : w = 0
        · rw [if_pos c0, if_pos c0]
        · rw [if_neg c0, if_neg c0]
          by_cases c1 : w = 1
          · rw [if_pos c1, if_pos c1]
          · rw [if_neg c1, if_neg c1]
            by_cases c2 : w = 2
            · rw [if_pos c2, if_pos c2]
            · rw [if_neg c2, if_neg c2]
              by_cases c3 : w = 3
              · rw [if_pos c3, if_pos c3]
              · rw [if_neg c3, if_neg c3, if_pos (by omega)]
      · rw [R_isPool, RR1.1.2.2]
        simp only [bindS, bI_0, R_isSide, R_isIn]
        have k1' : g_X12_keeps 0 M1 = some ((), M2) := k1
        have k4' : g_X12_laysBack 0 M3 = some ((), M4) := k4
        rw [if_neg (fun q => q hp), if_neg (fun q => q hs), if_neg (fun q => q ha), if_neg (fun q => q he), if_neg (fun q => q hw), k1']
        simp only [bindS]
        rw [k2]
        simp only [bindS]
        rw [k3]
        simp only [bindS]
        rw [k4']
        simp only [bindS]
        rw [t29, t31, t32, t33, s8, s9, s10, s11, s13]
        split
        · rfl
        · split
          · rfl
          · split
            · rfl
            · split <;> rfl
    · refine ⟨-1, M1, M1, ?_, ?_, ?_⟩
      · rw [if_neg (by omega), if_neg (by omega), if_neg (by omega), if_neg (by omega), if_neg (by omega)]
      · rw [R_isPool, RR1.1.2.2]
        simp only [bindS, bI_0, R_isSide, R_isIn]
        rw [if_neg (fun q => q hp), if_neg (fun q => q hs), if_neg (fun q => q ha), if_neg (fun q => q he), if_pos hw]
      · exact IV_ask h0 a3 R W hM hk ht RR1 K1 (fun _ _ _ _ => sameH.rfl) (fun _ _ => rfl)
  · refine ⟨-1, M, M, ?_, ?_, h0⟩
    · by_cases c1 : (0 ≤ p ∧ p < po) ∧ (side = 0 ∨ side = 1) ∧ (1 ≤ amount ∧ amount ≤ 9999999)
      · rw [if_neg (fun q => q c1), if_pos (fun q => hc ⟨c1, q⟩)]
      · rw [if_pos c1]
    · rw [R_isPool, RR.1.2.2]
      simp only [bindS, bI_0, R_isSide, R_isIn]
      by_cases c1 : 0 ≤ p ∧ p < po
      · rw [if_neg (fun q => q c1)]
        by_cases c2 : side = 0 ∨ side = 1
        · rw [if_neg (fun q => q c2)]
          by_cases c3 : 1 ≤ amount ∧ amount ≤ 9999999
          · rw [if_neg (fun q => q c3), if_pos (fun q => hc ⟨⟨c1, c2, c3⟩, q⟩)]
          · rw [if_pos c3]
        · rw [if_pos c2]
      · rw [if_pos c1]
theorem ok_quoteIn (a b c d e : Int32) : SO INV (f_X11_quoteIn a b c d e) (f_X12_quoteIn a b c d e) := SO_of (IV := IV) (fun _ => l_X11_quoteIn rfl rfl rfl rfl rfl rfl) (fun _ => l_X12_quoteIn rfl rfl rfl rfl rfl rfl) (fun _ h => q_quoteIn h _ _ _ _ _)
theorem q_quoteOut {M : MZ} (h : IV M) (p side amount w : Int) : ∃ r M1 M2, g_X11_quoteOut p side amount w M = some (r, M1) ∧ g_X12_quoteOut p side amount w M1 = some (r, M2) ∧ IV M2 := by
  have h0 := h
  obtain ⟨N, T, L, th, pe, po, R, RR, W, hM, hk, ht, hH, K, hA⟩ := h
  have hz := W.1.r
  unfold g_X11_quoteOut g_X11_quoteOut_21 g_X12_quoteOut g_X12_quoteOut_40 g_X12_quoteOut_126
  rw [K_canAsk M R (by omega)]
  simp only [bindS, bI_0]
  by_cases hc : ((0 ≤ p ∧ p < po) ∧ (side = 0 ∨ side = 1) ∧ (1 ≤ amount ∧ amount ≤ 9999999)) ∧ (0 ≤ w ∧ w ≤ 3)
  · obtain ⟨⟨hp, hs, ha⟩, hw⟩ := hc
    rw [if_neg (fun q => q ⟨hp, hs, ha⟩), if_neg (by omega), if_pos hw.2]
    obtain ⟨p, rfl⟩ := zR_nat hp.1
    have hpb : Pbg p po side (if side = 0 then 0 else 40) 1 := ⟨by omega, hp.2, hs, Or.inr rfl, by split <;> omega⟩
    obtain ⟨M1, ae, a1, a2, a3⟩ := K_drain0 b78 R W (amount := amount) (show p < 5 by omega) hp.2 hs (by omega) (-1)
    have RR1 : RepR M1 N T L th pe po := RR.same (fun x x1 x2 => a3 x (by omega))
    have K1 : KON M1 := K.mv (fun x hx => a3 x (by omega))
    rw [a1]
    simp only [bindS]
    obtain ⟨M2, M3, M4, k1, k2, k3, k4, R4, K4, t29, t30, t31, t32, t33, f1, f2, f3⟩ := R_try RR1 K1 W (amount := amount) hpb (by omega)
    have hIV := IV_ask h0 a3 R W hM hk ht R4 K4 f1 f2
    obtain ⟨⟨s0, s1, s2, s3, s4, s5, s8, s10, s11⟩, s12, s13, s9, s6⟩ := a2
    refine ⟨if zL M1 4 10 ≤ 0 then (if w = 0 then w32 (zL M1 4 12) else if w = 1 then w32 (zL M1 4 13) else if w = 2 then zI M1 4 8 else zI M1 4 9) else -2, M1, M4, ?_, ?_, hIV⟩
    · by_cases cl : zL M1 4 10 ≤ 0
      · rw [if_pos cl, if_pos cl]
        by_cases c0 : w = 0
        · rw [if_pos c0, if_pos c0]
        · rw [if_neg c0, if_neg c0]
          by_cases c1 : w = 1
          · rw [if_pos c1, if_pos c1]
          · rw [if_neg c1, if_neg c1]
            by_cases c2 : w = 2
            · rw [if_pos c2, if_pos c2]
            · rw [if_neg c2, if_neg c2]
      · rw [if_neg cl, if_neg cl]
    · rw [R_isPool, RR1.1.2.2]
      simp only [bindS, bI_0, R_isSide, R_isIn, R_endOf]
      have k1' : g_X12_keeps 0 M1 = some ((), M2) := k1
      have k4' : g_X12_laysBack 0 M3 = some ((), M4) := k4
      rw [if_neg (fun q => q hp), if_neg (fun q => q hs), if_neg (fun q => q ha), if_neg (fun q => q hw), k1']
      simp only [bindS]
      rw [k2]
      simp only [bindS]
      rw [k3]
      simp only [bindS]
      rw [k4']
      simp only [bindS]
      rw [t29, t30, t32, t33, s8, s9, s10, s12, s13]
      generalize toP p (swap N T L p side amount (if side = 0 then 0 else 40) 1) = st
      split
      · split
        · rfl
        · split
          · rfl
          · split <;> rfl
      · rfl
  · refine ⟨-1, M, M, ?_, ?_, h0⟩
    · by_cases c1 : (0 ≤ p ∧ p < po) ∧ (side = 0 ∨ side = 1) ∧ (1 ≤ amount ∧ amount ≤ 9999999)
      · rw [if_neg (fun q => q c1)]
        by_cases c2 : w < 0
        · rw [if_pos c2]
        · rw [if_neg c2, if_neg (fun q => hc ⟨c1, by omega⟩)]
      · rw [if_pos c1]
    · rw [R_isPool, RR.1.2.2]
      simp only [bindS, bI_0, R_isSide, R_isIn]
      by_cases c1 : 0 ≤ p ∧ p < po
      · rw [if_neg (fun q => q c1)]
        by_cases c2 : side = 0 ∨ side = 1
        · rw [if_neg (fun q => q c2)]
          by_cases c3 : 1 ≤ amount ∧ amount ≤ 9999999
          · rw [if_neg (fun q => q c3), if_pos (fun q => hc ⟨⟨c1, c2, c3⟩, q⟩)]
          · rw [if_pos c3]
        · rw [if_pos c2]
      · rw [if_pos c1]
theorem ok_quoteOut (a b c d : Int32) : SO INV (f_X11_quoteOut a b c d) (f_X12_quoteOut a b c d) := SO_of (IV := IV) (fun _ => l_X11_quoteOut rfl rfl rfl rfl rfl) (fun _ => l_X12_quoteOut rfl rfl rfl rfl rfl) (fun _ h => q_quoteOut h _ _ _ _)
