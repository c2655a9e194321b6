/-! out -/
theorem q_out {M : MZ} (h : IV M) (per p side amount : Int) : ∃ r M1 M2, g_X11_out per p side amount M = some (r, M1) ∧ g_X12_out per p side amount M1 = some (r, M2) ∧ IV M2 := by
  have h0 := h
  obtain ⟨N, T, L, th, pe, po, R, RR, W, hM, hk, ht, hH, K, hA⟩ := h
  have hpe := W.1.r
  have h12 := R.2.2.2.2.2.2
  by_cases hp : (0 ≤ p ∧ p < po) ∧ (0 ≤ per ∧ per < pe) ∧ (side = 0 ∨ side = 1) ∧ (1 ≤ amount ∧ amount ≤ 9999999)
  · obtain ⟨hp, hr, hs, ha⟩ := hp
    obtain ⟨p, rfl⟩ := zR_nat hp.1
    obtain ⟨per, rfl⟩ := zR_nat hr.1
    have hp5 : p < 5 := by omega
    have hper4 : per < 4 := by omega
    obtain ⟨hxk, hk2⟩ := xk_r hs
    have ht2 := W.t2 hp5 hp.2
    have m := hk p hp5 hp.2
    obtain ⟨t, et⟩ := zR_nat (ht2.k hk2).1
    have t5 : t < 5 := by have := (ht2.k hk2).2; omega
    have eu := uc_eq (per := per) et
    have hrz := (W.2.1 p hp5 hp.2).2
    have esel : (if side = 0 then 0 else 1) = xk side := by rcases hs with rfl | rfl <;> rfl
    have ha' : 0 < amount ∧ amount ≤ 10000000000 := by omega
    have he : 0 ≤ (if side = 0 then (0 : Int) else 40) ∧ (if side = 0 then (0 : Int) else 40) ≤ 40 := by split <;> omega
    have hb : Pbg p po side (if side = 0 then 0 else 40) 1 := ⟨hp5, hp.2, hs, Or.inr rfl, he⟩
    obtain ⟨M1, ae, a1, a2, a3⟩ := K_drain0 b78 R W hp5 hp.2 hs ha' (-1)
    rw [← swap_mk W h12 m hb ha'] at a2
    have R1 := R.not4 b78 a3
    have RR1 : RepR M1 N T L th pe po := RR_4 (fun x h1 _ => a3 x h1) RR
    have K1 : KON M1 := K_4 (fun x h1 _ => a3 x h1) K
    have e1 : g_X4_thingOn (78 + 2 + 2 + 5 * p) side M1 = some ((t : Int), M1) := by
      rw [K_thingOn b78 hp5, esel, K_told R1 hp5 hp.2 (by omega), et]
    have e2 : g_X2_purseOf 78 per t M1 = some (N (uc T p (xk side) per), M1) := by rw [eu]; exact w32_purse b78 R1 hM hper4 t5
    obtain ⟨M2, d1, d2⟩ := K_drain1 b78 R1 (W.mk m) hp5 hp.2 hs (MkO_true b78 R1 hp5 hp.2 m hrz.1 ht.2) ⟨mkN_at m (by omega), mkN_at m (by omega)⟩ ha' (per := per) (Or.inr ⟨by omega, by omega⟩)
    have hpu := fun s es => swap_pure (s := s) (D := D0) W h12 hk hM D0_le (p := p) (per := per) ⟨rfl, rfl⟩ hb ha' hper4 es
    have hW := swap_WF W h12 m hb ha'
    have ho1 := fun s es => R_out (s := s) RR1 K1 W hk ht.2 hp5 hp.2 hr.2 hs ha es
    have ho2 := fun s es => R_out (s := s) (RR_4 d2.2.2.2 RR1) (K_4 d2.2.2.2 K1) W hk ht.2 hp5 hp.2 hr.2 hs ha es
    generalize swap (mkN N p) T L p side amount (if side = 0 then 0 else 40) 1 = s at *
    have t10 : zL M1 4 10 = s.2.2.1 := a2.1.2.2.2.2.2.2.2.1
    have t12 : zL M1 4 12 = s.2.2.2.1 := a2.2.1
    obtain ⟨u1, u2, u3, u4, u5⟩ := hpu s rfl
    obtain ⟨_, b3, ⟨b4, b5, b6⟩, b7⟩ := d2
    have hpre : g_X11_out per p side amount M = (if s.2.2.1 ≤ 0 then (if s.2.2.2.1 ≤ N (uc T p (xk side) per) then some (w32 s.2.2.2.1, M2) else some (-3, M1)) else some (-2, M1)) := by
      unfold g_X11_out g_X11_out_41
      rw [K_poolAt_y b78 hp5 (by rw [R.1.2.2.1]; exact hp.2)]
      simp only [bindS]
      rw [if_neg (by omega), K_hasPerson b78, R.1.2.1]
      simp only [bindS, bI_0]
      rw [if_neg (fun q => q hr), K_isSide]
      simp only [bindS, bI_0]
      rw [if_neg (fun q => q hs), K_isAmount]
      simp only [bindS, bI_0]
      rw [if_neg (fun q => q ha), a1]
      simp only [bindS]
      rw [t10, t12, if_pos (kdp b78 hp5), e1]
      simp only [bindS]
      rw [e2]
      simp only [bindS]
      rw [d1]
      simp only [bindS]
      rw [b6]
    rw [hpre]
    by_cases c1 : s.2.2.1 ≤ 0
    · rw [if_pos c1]
      by_cases c2 : s.2.2.2.1 ≤ N (uc T p (xk side) per)
      · rw [if_pos c2]
        obtain ⟨M3, f1, f2, f3, f4, f5⟩ := (ho2 s rfl).2.2 c1 c2
        obtain ⟨v1, v2, v3, v4⟩ := u5 c2 hW.1
        exact ⟨_, M2, M3, rfl, f1, IV_mk2 (fun x h1 h2 => (a3 x h1).trans (b7 x h1 h2)) f4 (b3 per hper4 rfl) f2 v2 v1 v3 (by rw [v4]; exact ht) hH f3 hA⟩
      · rw [if_neg c2]
        obtain ⟨M3, f1, f2, f3, f4, f5⟩ := (ho1 s rfl).2.1 c1 (by omega)
        exact ⟨_, M1, M3, rfl, f1, IV_mk2 (fun x h1 _ => a3 x h1) f4 R1 f2 W hM hk ht hH f3 hA⟩
    · rw [if_neg c1]
      obtain ⟨M3, f1, f2, f3, f4, f5⟩ := (ho1 s rfl).1 (by omega)
      exact ⟨_, M1, M3, rfl, f1, IV_mk2 (fun x h1 _ => a3 x h1) f4 R1 f2 W hM hk ht hH f3 hA⟩
  · refine ⟨-1, M, M, ?_, ?_, h0⟩
    · unfold g_X11_out g_X11_out_41
      by_cases c1 : 0 ≤ p ∧ p < po
      · obtain ⟨p, rfl⟩ := zR_nat c1.1
        rw [K_poolAt_y b78 (by omega) (by rw [R.1.2.2.1]; exact c1.2)]
        simp only [bindS]
        rw [if_neg (by omega), K_hasPerson b78, R.1.2.1]
        simp only [bindS, bI_0]
        by_cases c2 : 0 ≤ per ∧ per < pe
        · rw [if_neg (fun q => q c2), K_isSide]
          simp only [bindS, bI_0]
          by_cases c3 : side = 0 ∨ side = 1
          · rw [if_neg (fun q => q c3), K_isAmount]
            simp only [bindS, bI_0]
            rw [if_pos (fun q => hp ⟨c1, c2, c3, q⟩)]
          · rw [if_pos c3]
        · rw [if_pos c2]
      · rw [K_poolAt_n b78 (by rw [R.1.2.2.1]; exact c1)]
        simp only [bindS]
        rw [if_pos trivial]
    · unfold g_X12_out g_X12_out_36
      rw [R_isPerson, RR.1.2.1]
      simp only [bindS, bI_0]
      by_cases c2 : 0 ≤ per ∧ per < pe
      · rw [if_neg (fun q => q c2), R_isPool, RR.1.2.2]
        simp only [bindS, bI_0]
        by_cases c1 : 0 ≤ p ∧ p < po
        · rw [if_neg (fun q => q c1), R_isSide]
          simp only [bindS, bI_0]
          by_cases c3 : side = 0 ∨ side = 1
          · rw [if_neg (fun q => q c3), R_isIn]
            simp only [bindS, bI_0]
            rw [if_pos (fun q => hp ⟨c1, c2, c3, q⟩)]
          · rw [if_pos c3]
        · rw [if_pos c1]
      · rw [if_pos c2]
theorem ok_out (a b c d : Int32) : SO INV (f_X11_out a b c d) (f_X12_out a b c d) := SO_of (IV := IV) (fun _ => l_X11_out rfl rfl rfl rfl rfl) (fun _ => l_X12_out rfl rfl rfl rfl rfl) (fun _ h => q_out h _ _ _ _)
