/-! in and out -/
theorem D0_le : ∀ p k, D0 p k ≤ 39999996 := fun _ _ => by show (0 : Int) ≤ _; omega
/-- an invariant laid together again: only the trade, the live market, the reference's scalars and rows have changed -/
theorem IV_mk2 {M M1 M2 : MZ} {N T : Nat → Int} {L : List (Nat → Int)} {th pe po : Int} (F1 : ∀ x, x ≠ 4 → ¬ (78 ≤ x ∧ x < 78 + 65) → sameH M M1 x) (F2 : FrO M1 M2) (R : Rep true M1 78 N T L th pe po) (RR : RepR M2 N T L th pe po) (W : WF N T L th pe po) (hM : Mny N T L po) (hk : ∀ p : Nat, p < 5 → (p : Int) < po → Mrk N p) (ht : 0 ≤ N 0 ∧ N 0 ≤ 9999999) (hH : HP M 143) (K2 : KON M2) (hA : TAP M) : IV M2 := by
  have hs : ∀ h, h ≠ 4 → ¬ (78 ≤ h ∧ h < 143) → h ≠ 20 → h ≠ 23 → h ≠ 24 → sameH M M2 h := fun h h1 h2 h3 h4 h5 => (F1 h h1 (by omega)).trans (F2.1 h h3 h4 h5)
  refine ⟨N, T, L, th, pe, po, R.same (fun h h1 h2 => F2.1 h (by omega) (by omega) (by omega)), RR, W, hM, hk, ht, HP.same (fun i _ => (hs 146 (by omega) (by omega) (by omega) (by omega) (by omega) i).2.2) hH, K2, ?_⟩
  have e2 := hs 2 (by omega) (by omega) (by omega) (by omega) (by omega)
  have e3 := hs 3 (by omega) (by omega) (by omega) (by omega) (by omega)
  have e25 := hs 25 (by omega) (by omega) (by omega) (by omega) (by omega)
  have e8 : zI M2 20 8 = zI M 20 8 := (F2.2.1 8 (by omega)).trans (F1 20 (by omega) (by omega) 8).1
  exact ⟨by rw [(e2 0).1]; exact hA.1, by rw [e8, (e2 0).1]; exact hA.2.1, fun j hj => by rw [(e25 j).1, (e3 j).1]; exact hA.2.2 j hj⟩
theorem RR_4 {M M1 : MZ} {N T : Nat → Int} {L : List (Nat → Int)} {th pe po : Int} (F : ∀ x, x ≠ 4 → ¬ (78 ≤ x ∧ x < 78 + 65) → sameH M M1 x) (RR : RepR M N T L th pe po) : RepR M1 N T L th pe po := RR.same (fun h h1 h2 => F h (by omega) (by omega))
theorem K_4 {M M1 : MZ} (F : ∀ x, x ≠ 4 → ¬ (78 ≤ x ∧ x < 78 + 65) → sameH M M1 x) (K : KON M) : KON M1 := K.mv (fun x hx => F x (by omega) (by omega))
theorem w32_purse {M : MZ} {kk : Bool} {b : Nat} {N T : Nat → Int} {L : List (Nat → Int)} {th pe po : Int} {D : Nat → Nat → Int} (hb : bOK b) (R : Rep kk M b N T L th pe po) (hM : MnyD D N T L po) {per t : Nat} (hper : per < 4) (ht : t < 5) : g_X2_purseOf b per t M = some (N (2 + (5 * per + t)), M) := by
  have := hM.hU (5 * per + t) (by omega)
  rw [K_purseOf hb hper ht, R.2.1 _ (by omega), w32_id (by omega) (by omega)]
theorem q_in {M : MZ} (h : IV M) (per p side amount e : Int) : ∃ r M1 M2, g_X11_in per p side amount e M = some (r, M1) ∧ g_X12_in per p side amount e M1 = some (r, M2) ∧ IV M2 := by
  have h0 := h
  obtain ⟨N, T, L, th, pe, po, R, RR, W, hM, hk, ht, hH, K, hA⟩ := h
  have hpe := W.1.r
  have h12 := R.2.2.2.2.2.2
  by_cases hp : (0 ≤ p ∧ p < po) ∧ (0 ≤ per ∧ per < pe) ∧ (side = 0 ∨ side = 1) ∧ (0 ≤ e ∧ e ≤ 40)
  · obtain ⟨hp, hr, hs, he⟩ := hp
    obtain ⟨p, rfl⟩ := zR_nat hp.1
    obtain ⟨per, rfl⟩ := zR_nat hr.1
    have hp5 : p < 5 := by omega
    have hper4 : per < 4 := by omega
    obtain ⟨hxk, hk2⟩ := xk_r hs
    have ht2 := W.t2 hp5 hp.2
    have m := hk p hp5 hp.2
    obtain ⟨t, et⟩ := zR_nat (ht2.k hk2).1
    have t5 : t < 5 := by have := (ht2.k hk2).2; omega
    have eu := uc_eq (per := per) et
    have hu := hM.hU (5 * per + t) (by omega)
    rw [← eu] at hu
    have hrz := (W.2.1 p hp5 hp.2).2
    have esel : (if side = 0 then 0 else 1) = xk side := by rcases hs with rfl | rfl <;> rfl
    have e1 : g_X4_thingOn (78 + 2 + 2 + 5 * p) side M = some ((t : Int), M) := by
      rw [K_thingOn b78 hp5, esel, K_told R hp5 hp.2 (by omega), et]
    have e2 : g_X2_purseOf 78 per t M = some (N (uc T p (xk side) per), M) := by rw [eu]; exact w32_purse b78 R hM hper4 t5
    have hcls : ¬ (1 ≤ amount ∧ amount ≤ N (uc T p (xk side) per)) → g_X11_in per p side amount e M = some (-1, M) := by
      intro hn
      unfold g_X11_in g_X11_in_41 g_X11_in_68
      rw [K_poolAt_y b78 hp5 (by rw [R.1.2.2.1]; exact hp.2)]
      simp only [bindS]
      rw [if_neg (by omega), K_hasPerson b78, R.1.2.1]
      simp only [bindS, bI_0]
      rw [if_neg (fun q => q hr), K_isSide]
      simp only [bindS, bI_0]
      rw [if_neg (fun q => q hs), K_isTick]
      simp only [bindS, bI_0]
      rw [if_neg (fun q => q he)]
      by_cases c : amount < 1
      · rw [if_pos c]
      · rw [if_neg c, if_pos (kdp b78 hp5), e1]
        simp only [bindS]
        rw [e2]
        simp only [bindS]
        rw [if_neg (by omega)]
    by_cases ha : 1 ≤ amount ∧ amount ≤ N (uc T p (xk side) per)
    · have hb : Pbg p po side e 0 := ⟨hp5, hp.2, hs, Or.inl rfl, he⟩
      obtain ⟨M1, a1, a2⟩ := K_pour1 b78 R (W.mk m) hb (MkO_true b78 R hp5 hp.2 m hrz.1 ht.2) ⟨mkN_at m (by omega), mkN_at m (by omega)⟩ (show 0 < amount ∧ amount ≤ 10000000000 by omega) (per := per) (Or.inr ⟨by omega, by omega⟩)
      have hpu := fun s es => swap_pure (s := s) (D := D0) W h12 hk hM D0_le (p := p) (per := per) ⟨rfl, rfl⟩ hb (show 0 < amount ∧ amount ≤ 10000000000 by omega) hper4 es
      obtain ⟨_, a3, ⟨a4, a5, a6⟩, a7⟩ := a2
      have RR1 := RR_4 a7 RR
      have hin := (R_in (D := D0) RR1 (K_4 a7 K) W hk hM ht.2 hp5 hp.2 hr.2 hs he amount).2 ha
      have hW := swap_WF W h12 m hb (show 0 < amount ∧ amount ≤ 10000000000 by omega)
      generalize swap (mkN N p) T L p side amount e 0 = s at *
      obtain ⟨u1, u2, u3, u4, u5⟩ := hpu s rfl
      have u3' := u3 rfl
      obtain ⟨v1, v2, v3, v4⟩ := u5 (by have := hW.2; omega) hW.1
      obtain ⟨M2, b1, b2, b3, b4, b5⟩ := hin
      refine ⟨w32 s.2.2.2.2.1, M1, M2, ?_, b1, IV_mk2 a7 (FrO.ofS b4) (a3 per hper4 rfl) b2 v2 v1 v3 (by rw [v4]; exact ht) hH b3 hA⟩
      unfold g_X11_in g_X11_in_41 g_X11_in_68
      rw [K_poolAt_y b78 hp5 (by rw [R.1.2.2.1]; exact hp.2)]
      simp only [bindS]
      rw [if_neg (by omega), K_hasPerson b78, R.1.2.1]
      simp only [bindS, bI_0]
      rw [if_neg (fun q => q hr), K_isSide]
      simp only [bindS, bI_0]
      rw [if_neg (fun q => q hs), K_isTick]
      simp only [bindS, bI_0]
      rw [if_neg (fun q => q he), if_neg (by omega), if_pos (kdp b78 hp5), e1]
      simp only [bindS]
      rw [e2]
      simp only [bindS]
      rw [if_pos ha.2, a1]
      simp only [bindS]
      rw [a5]
    · exact ⟨-1, M, M, hcls ha, (R_in (D := D0) RR K W hk hM ht.2 hp5 hp.2 hr.2 hs he amount).1 ha, h0⟩
  · refine ⟨-1, M, M, ?_, ?_, h0⟩
    · unfold g_X11_in g_X11_in_41 g_X11_in_68
      by_cases c1 : 0 ≤ p ∧ p < po
      · obtain ⟨p, rfl⟩ := zR_nat c1.1
        rw [K_poolAt_y b78 (by omega) (by rw [R.1.2.2.1]; exact c1.2)]
        simp only [bindS]
        rw [if_neg (by omega), K_hasPerson b78, R.1.2.1]
        simp only [bindS, bI_0]
        by_cases c2 : 0 ≤ per ∧ per < pe
        · rw [if_neg (fun q => q c2), K_isSide]
          simp only [bindS, bI_0]
          by_cases c3 : side = 0 ∨ side = 1
          · rw [if_neg (fun q => q c3), K_isTick]
            simp only [bindS, bI_0]
            rw [if_pos (fun q => hp ⟨c1, c2, c3, q⟩)]
          · rw [if_pos c3]
        · rw [if_pos c2]
      · rw [K_poolAt_n b78 (by rw [R.1.2.2.1]; exact c1)]
        simp only [bindS]
        rw [if_pos trivial]
    · unfold g_X12_in g_X12_in_57
      rw [R_isPerson, RR.1.2.1]
      simp only [bindS, bI_0]
      by_cases c2 : 0 ≤ per ∧ per < pe
      · rw [if_neg (fun q => q c2), R_isPool, RR.1.2.2]
        simp only [bindS, bI_0]
        by_cases c1 : 0 ≤ p ∧ p < po
        · rw [if_neg (fun q => q c1), R_isSide]
          simp only [bindS, bI_0]
          by_cases c3 : side = 0 ∨ side = 1
          · rw [if_neg (fun q => q c3), R_isIn]
            simp only [bindS, bI_0]
            rw [if_pos (fun q => hp ⟨c1, c2, c3, q⟩)]
          · rw [if_pos c3]
        · rw [if_pos c1]
      · rw [if_pos c2]
theorem ok_in (a b c d e : Int32) : SO INV (f_X11_in a b c d e) (f_X12_in a b c d e) := SO_of (IV := IV) (fun _ => l_X11_in rfl rfl rfl rfl rfl rfl) (fun _ => l_X12_in rfl rfl rfl rfl rfl rfl) (fun _ h => q_in h _ _ _ _ _)
