/-! feed -/
def bt (v : Int) (j : Nat) : Int := w8 (w8 (shr32 v (and32 (24 - 8 * (j : Int)) 31)))
theorem bt_r (v : Int) (j : Nat) : -128 ≤ bt v j ∧ bt v j ≤ 127 := w8_r _
theorem ap_step (f : Nat) (v : Int) (j n : Nat) (hj : j < 4) {M : MZ} (hn : zI M 2 0 = n) (h4 : n < 400) : g_X9_append_3 (f + 1) v (24 - 8 * (j : Int)) M = g_X9_append_3 f v (24 - 8 * ((j + 1 : Nat) : Int)) (uI (uI M 3 n (bt v j)) 2 0 ((n + 1 : Nat) : Int)) := by
  have e : g_X9_append_3 (f + 1) v (24 - 8 * (j : Int)) M = g_X9_append_3B (g_X9_append_3 f) v (24 - 8 * (j : Int)) M := rfl
  rw [e]
  unfold g_X9_append_3B bt
  rw [if_neg (by omega), hn, if_neg (by omega), if_pos (by omega), Int.toNat_natCast, zI_uI, if_neg (by omega), hn, w32_id (x := (n : Int) + 1) (by omega) (by omega), w32_id (x := 24 - 8 * (j : Int) + -8) (by omega) (by omega), show 24 - 8 * (j : Int) + -8 = 24 - 8 * ((j + 1 : Nat) : Int) by omega, show (n : Int) + 1 = ((n + 1 : Nat) : Int) by omega]
theorem ap_end (f : Nat) (v : Int) (M : MZ) : g_X9_append_3 (f + 1) v (24 - 8 * ((4 : Nat) : Int)) M = some ((), M) := by
  have e : g_X9_append_3 (f + 1) v (24 - 8 * ((4 : Nat) : Int)) M = g_X9_append_3B (g_X9_append_3 f) v (24 - 8 * ((4 : Nat) : Int)) M := rfl
  rw [e]
  unfold g_X9_append_3B g_X9_append_48
  rw [if_pos (by omega)]
theorem K_append (v : Int) (n : Nat) {M : MZ} (hn : zI M 2 0 = n) (h4 : n + 4 ≤ 400) : ∃ M', g_X9_append v M = some ((), M') ∧ (∀ h, h ≠ 2 → h ≠ 3 → sameH M M' h) ∧ zI M' 2 0 = ((n + 4 : Nat) : Int) ∧ (∀ x, zI M' 3 x = if n ≤ x ∧ x < n + 4 then bt v (x - n) else zI M 3 x) := by
  refine ⟨uI (uI (uI (uI (uI (uI (uI (uI M 3 n (bt v 0)) 2 0 ((n + 1 : Nat) : Int)) 3 (n + 1) (bt v 1)) 2 0 ((n + 1 + 1 : Nat) : Int)) 3 (n + 2) (bt v 2)) 2 0 ((n + 2 + 1 : Nat) : Int)) 3 (n + 3) (bt v 3)) 2 0 ((n + 3 + 1 : Nat) : Int), ?_, ?_, ?_, ?_⟩
  · unfold g_X9_append
    have e0 := ap_step 99999 v 0 n (by omega) hn (by omega)
    have e1 := ap_step 99998 v 1 (n + 1) (by omega) (M := uI (uI M 3 n (bt v 0)) 2 0 ((n + 1 : Nat) : Int)) (by rw [zI_uI, if_pos ⟨rfl, rfl⟩]) (by omega)
    have e2 := ap_step 99997 v 2 (n + 2) (by omega) (M := uI (uI (uI (uI M 3 n (bt v 0)) 2 0 ((n + 1 : Nat) : Int)) 3 (n + 1) (bt v 1)) 2 0 ((n + 1 + 1 : Nat) : Int)) (by rw [zI_uI, if_pos ⟨rfl, rfl⟩]) (by omega)
    have e3 := ap_step 99996 v 3 (n + 3) (by omega) (M := uI (uI (uI (uI (uI (uI M 3 n (bt v 0)) 2 0 ((n + 1 : Nat) : Int)) 3 (n + 1) (bt v 1)) 2 0 ((n + 1 + 1 : Nat) : Int)) 3 (n + 2) (bt v 2)) 2 0 ((n + 2 + 1 : Nat) : Int)) (by rw [zI_uI, if_pos ⟨rfl, rfl⟩]) (by omega)
    exact e0.trans (e1.trans (e2.trans (e3.trans (ap_end 99995 v _))))
  · intro h h2 h3
    exact (((((((sameH_uI h3).trans (sameH_uI h2)).trans (sameH_uI h3)).trans (sameH_uI h2)).trans (sameH_uI h3)).trans (sameH_uI h2)).trans (sameH_uI h3)).trans (sameH_uI h2)
  · rw [zI_uI, if_pos ⟨rfl, rfl⟩]
  · intro x
    rw [zI_uI, zI_uI, zI_uI, zI_uI, zI_uI, zI_uI, zI_uI, zI_uI]
    by_cases c : n ≤ x ∧ x < n + 4
    · have : x = n ∨ x = n + 1 ∨ x = n + 2 ∨ x = n + 3 := by omega
      rw [if_pos c]
      rcases this with rfl | rfl | rfl | rfl
      · rw [if_neg (by omega), if_neg (by omega), if_neg (by omega), if_neg (by omega), if_neg (by omega), if_neg (by omega), if_neg (by omega), if_pos (by omega), Nat.sub_self]
      · rw [if_neg (by omega), if_neg (by omega), if_neg (by omega), if_neg (by omega), if_neg (by omega), if_pos (by omega), show n + 1 - n = 1 by omega]
      · rw [if_neg (by omega), if_neg (by omega), if_neg (by omega), if_pos (by omega), show n + 2 - n = 2 by omega]
      · rw [if_neg (by omega), if_pos (by omega), show n + 3 - n = 3 by omega]
    · rw [if_neg c, if_neg (by omega), if_neg (by omega), if_neg (by omega), if_neg (by omega), if_neg (by omega), if_neg (by omega), if_neg (by omega), if_neg (by omega)]
def sel (a b c d e : Int) (y : Nat) : Int := if y < 4 then a else if y < 8 then b else if y < 12 then c else if y < 16 then d else e
def fb (a b c d e : Int) (y : Nat) : Int := bt (sel a b c d e y) (y % 4)
theorem R_feed_loop (a b c d e : Int) (n : Nat) (hn : n ≤ 380) {M0 : MZ} : ∀ (j k f : Nat), k + j = 20 → j < f → ∀ M : MZ, (∀ h, h ≠ 25 → sameH M0 M h) → zI M 20 8 = n → (∀ x, zI M 25 x = if n ≤ x ∧ x < n + k then fb a b c d e (x - n) else zI M0 25 x) → ∃ M', g_X12_feed_15 f a b c d e k M = some (((n + 20 : Nat) : Int), M') ∧ (∀ h, h ≠ 20 → h ≠ 25 → sameH M0 M' h) ∧ (∀ y, y ≠ 8 → zI M' 20 y = zI M0 20 y) ∧ (∀ y, zL M' 20 y = zL M0 20 y) ∧ zI M' 20 8 = ((n + 20 : Nat) : Int) ∧ (∀ x, zI M' 25 x = if n ≤ x ∧ x < n + 20 then fb a b c d e (x - n) else zI M0 25 x) := by
  intro j
  induction j with
  | zero =>
    intro k f hk hf M hs h8 hx
    obtain ⟨f, rfl⟩ : ∃ g, f = g + 1 := ⟨f - 1, by omega⟩
    have hk20 : k = 20 := by omega
    subst hk20
    refine ⟨uI M 20 8 ((n + 20 : Nat) : Int), ?_, ?_, ?_, ?_, ?_, ?_⟩
    · have e0 : g_X12_feed_15 (f + 1) a b c d e ((20 : Nat) : Int) M = g_X12_feed_15B (g_X12_feed_15 f) a b c d e ((20 : Nat) : Int) M := rfl
      rw [e0]
      unfold g_X12_feed_15B
      rw [if_pos (by omega), h8, w32_id (by omega) (by omega), zI_uI, if_pos ⟨rfl, rfl⟩, show (n : Int) + 20 = ((n + 20 : Nat) : Int) by omega]
    · intro h h1 h2
      exact (hs h h2).trans (sameH_uI h1)
    · intro y hy
      rw [zI_uI, if_neg (by omega)]
      exact (hs 20 (by omega) y).1
    · intro y
      exact (hs 20 (by omega) y).2.1
    · rw [zI_uI, if_pos ⟨rfl, rfl⟩]
    · intro x
      rw [zI_uI, if_neg (by omega)]
      exact hx x
  | succ j ih =>
    intro k f hk hf M hs h8 hx
    obtain ⟨f, rfl⟩ : ∃ g, f = g + 1 := ⟨f - 1, by omega⟩
    have e0 : g_X12_feed_15 (f + 1) a b c d e (k : Int) M = g_X12_feed_15B (g_X12_feed_15 f) a b c d e (k : Int) M := rfl
    have hstep : g_X12_feed_15B (g_X12_feed_15 f) a b c d e (k : Int) M = g_X12_feed_15 f a b c d e ((k + 1 : Nat) : Int) (uI M 25 (n + k) (fb a b c d e k)) := by
      have h68 : ∀ s0 : Int, g_X12_feed_68 (g_X12_feed_15 f) a b c d e (k : Int) s0 M = g_X12_feed_15 f a b c d e ((k + 1 : Nat) : Int) (uI M 25 (n + k) (bt s0 (k % 4))) := by
        intro s0
        unfold g_X12_feed_68 bt
        rw [h8, w32_id (x := (n : Int) + k) (by omega) (by omega), if_pos (by omega), w32_id (x := (k : Int) + 1) (by omega) (by omega), Int.tmod_eq_emod_of_nonneg (by omega), w32_id (x := 8 * ((k : Int) % 4)) (by omega) (by omega), w32_id (x := 24 - 8 * ((k : Int) % 4)) (by omega) (by omega), show ((n : Int) + k).toNat = n + k by omega, show (k : Int) + 1 = ((k + 1 : Nat) : Int) by omega, show (k : Int) % 4 = ((k % 4 : Nat) : Int) by omega]
      unfold g_X12_feed_15B fb sel
      rw [if_neg (by omega), h68, h68, h68, h68, h68]
      by_cases c1 : k < 4
      · rw [if_neg (by omega), if_pos c1]
      · rw [if_pos (by omega), if_neg c1]
        by_cases c2 : k < 8
        · rw [if_neg (by omega), if_pos c2]
        · rw [if_pos (by omega), if_neg c2]
          by_cases c3 : k < 12
          · rw [if_neg (by omega), if_pos c3]
          · rw [if_pos (by omega), if_neg c3]
            by_cases c4 : k < 16
            · rw [if_neg (by omega), if_pos c4]
            · rw [if_pos (by omega), if_neg c4]
    rw [e0, hstep]
    refine ih (k + 1) f (by omega) (by omega) _ (fun h hh => (hs h hh).trans (sameH_uI hh)) ?_ ?_
    · rw [zI_uI, if_neg (by omega)]; exact h8
    · intro x
      rw [zI_uI]
      by_cases c1 : x = n + k
      · rw [if_pos ⟨rfl, c1⟩, if_pos (by omega), show x - n = k by omega]
      · rw [if_neg (fun q => c1 q.2), hx x]
        by_cases c2 : n ≤ x ∧ x < n + k
        · rw [if_pos c2, if_pos (by omega)]
        · rw [if_neg c2, if_neg (by omega)]
theorem IV.move {M M2 : MZ} (h : IV M) (h1 : ∀ h, 78 ≤ h → sameH M M2 h) (h2 : ∀ h, 21 ≤ h → h < 25 → sameH M M2 h) (h3 : ∀ y, y < 24 → y ≠ 8 → y ≠ 9 → y ≠ 10 → y ≠ 11 → zI M2 20 y = zI M 20 y) (h4 : ∀ y, y < 24 → zL M2 20 y = zL M 20 y) (h5 : sameH M M2 33) (hA : TAP M2) : IV M2 := by
  obtain ⟨N, T, L, th, pe, po, R, RR, W, hM, hk, ht, hH, K, _⟩ := h
  refine ⟨N, T, L, th, pe, po, R.same (fun x a _ => h1 x a), ?_, W, hM, hk, ht, HP.same (fun i _ => (h1 146 (by omega) i).2.2) hH, ?_, hA⟩
  · obtain ⟨⟨a0, a1, a2⟩, hT, hN, hn, hL, h12⟩ := RR
    have e1 := fun j => (h2 22 (by omega) (by omega) j).1
    have e2 := fun j => (h2 23 (by omega) (by omega) j).2.1
    exact ⟨⟨by rw [h3 1 (by omega) (by omega) (by omega) (by omega) (by omega)]; exact a0, by rw [h3 2 (by omega) (by omega) (by omega) (by omega) (by omega)]; exact a1, by rw [h3 3 (by omega) (by omega) (by omega) (by omega) (by omega)]; exact a2⟩, fun j hj => by rw [e1]; exact hT j hj, fun j hj => by rw [e2]; exact hN j hj, by rw [e2]; exact hn, fun i hi w hw => by rw [e2]; exact hL i hi w hw, h12⟩
  · exact ⟨fun j hj => by rw [(h2 21 (by omega) (by omega) j).2.1]; exact K.1 j hj, fun j a c => by rw [h4 j c]; exact K.2.1 j a c, fun j hj => by rw [(h5 j).2.1]; exact K.2.2 j hj⟩
theorem q_feed {M : MZ} (h : IV M) (a b c d e : Int) : ∃ r M1 M2, g_X11_feed a b c d e M = some (r, M1) ∧ g_X12_feed a b c d e M1 = some (r, M2) ∧ IV M2 := by
  have h0 := h
  obtain ⟨N, T, L, th, pe, po, R, RR, W, hM, hk, ht, hH, K, hA⟩ := h
  obtain ⟨n, en⟩ := zR_nat hA.1.1
  have hn := hA.1.2
  rw [en] at hn
  have er : g_X9_hasRoom M = some (bI (n ≤ 380), M) := by
    unfold g_X9_hasRoom g_X9_hasRoom_20 bI
    rw [en, w32_id (by omega) (by omega)]
    repeat' split
    all_goals first | rfl | omega
  unfold g_X11_feed
  rw [er]
  simp only [bindS, bI_0]
  by_cases c0 : n ≤ 380
  · rw [if_neg (fun q => q c0)]
    obtain ⟨A, a1, a2, a3, a4⟩ := K_append a n en (by omega)
    obtain ⟨B, b1, b2, b3, b4⟩ := K_append b (n + 4) a3 (by omega)
    obtain ⟨C, c1, c2, c3, c4⟩ := K_append c (n + 4 + 4) b3 (by omega)
    obtain ⟨D, d1, d2, d3, d4⟩ := K_append d (n + 4 + 4 + 4) c3 (by omega)
    obtain ⟨E, e1, e2, e3, e4⟩ := K_append e (n + 4 + 4 + 4 + 4) d3 (by omega)
    have hs : ∀ h, h ≠ 2 → h ≠ 3 → sameH M E h := fun h x y => ((((a2 h x y).trans (b2 h x y)).trans (c2 h x y)).trans (d2 h x y)).trans (e2 h x y)
    have hx : ∀ x, zI E 3 x = if n ≤ x ∧ x < n + 20 then fb a b c d e (x - n) else zI M 3 x := by
      intro x
      rw [e4, d4, c4, b4, a4]
      unfold fb sel
      by_cases k0 : n ≤ x ∧ x < n + 20
      · rw [if_pos k0]
        by_cases k1 : x < n + 4
        · rw [if_neg (by omega), if_neg (by omega), if_neg (by omega), if_neg (by omega), if_pos (by omega), if_pos (by omega), show (x - n) % 4 = x - n by omega]
        · by_cases k2 : x < n + 8
          · rw [if_neg (by omega), if_neg (by omega), if_neg (by omega), if_pos (by omega), if_neg (by omega), if_pos (by omega), show (x - n) % 4 = x - (n + 4) by omega]
          · by_cases k3 : x < n + 12
            · rw [if_neg (by omega), if_neg (by omega), if_pos (by omega), if_neg (by omega), if_neg (by omega), if_pos (by omega), show (x - n) % 4 = x - (n + 4 + 4) by omega]
            · by_cases k4 : x < n + 16
              · rw [if_neg (by omega), if_pos (by omega), if_neg (by omega), if_neg (by omega), if_neg (by omega), if_pos (by omega), show (x - n) % 4 = x - (n + 4 + 4 + 4) by omega]
              · rw [if_pos (by omega), if_neg (by omega), if_neg (by omega), if_neg (by omega), if_neg (by omega), show (x - n) % 4 = x - (n + 4 + 4 + 4 + 4) by omega]
      · rw [if_neg k0, if_neg (by omega), if_neg (by omega), if_neg (by omega), if_neg (by omega), if_neg (by omega)]
    have h8 : zI E 20 8 = n := by rw [(hs 20 (by omega) (by omega) 8).1, hA.2.1, en]
    obtain ⟨F, f1, f2, f3, f4, f5, f6⟩ := R_feed_loop a b c d e n c0 (M0 := E) 20 0 100000 (by omega) (by omega) E (fun _ _ => sameH.rfl) h8 (fun x => by rw [if_neg (by omega)])
    refine ⟨((n + 20 : Nat) : Int), E, F, ?_, ?_, ?_⟩
    · simp only [a1, b1, c1, d1, e1, bindS, e3]
    · unfold g_X12_feed
      rw [h8, if_pos (by omega)]
      exact f1
    · refine IV.move h0 (fun h x => (hs h (by omega) (by omega)).trans (f2 h (by omega) (by omega))) (fun h x y => (hs h (by omega) (by omega)).trans (f2 h (by omega) (by omega))) (fun y _ h8 _ _ _ => ?_) (fun y _ => ?_) ((hs 33 (by omega) (by omega)).trans (f2 33 (by omega) (by omega))) ?_
      · rw [f3 y h8, (hs 20 (by omega) (by omega) y).1]
      · rw [f4 y, (hs 20 (by omega) (by omega) y).2.1]
      · have g2 := fun k => (f2 2 (by omega) (by omega) k).1
        have g3 := fun k => (f2 3 (by omega) (by omega) k).1
        refine ⟨by rw [g2, e3]; omega, by rw [g2, e3, f5], fun j hj => ?_⟩
        rw [f6, g3, hx, (hs 25 (by omega) (by omega) j).1]
        have := hA.2.2 j hj
        by_cases k0 : n ≤ j ∧ j < n + 20
        · rw [if_pos k0, if_pos k0]
          exact ⟨rfl, bt_r _ _⟩
        · rw [if_neg k0, if_neg k0]
          exact this
  · rw [if_pos c0]
    refine ⟨-1, M, M, rfl, ?_, h0⟩
    unfold g_X12_feed
    rw [hA.2.1, en, if_neg (by omega)]
theorem ok_feed (a b c d e : Int32) : SO INV (f_X11_feed a b c d e) (f_X12_feed a b c d e) := SO_of (IV := IV) (fun _ => l_X11_feed rfl rfl rfl rfl rfl rfl) (fun _ => l_X12_feed rfl rfl rfl rfl rfl rfl) (fun _ h => q_feed h _ _ _ _ _)
