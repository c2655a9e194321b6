/-! there and back -/
theorem go_b {side l r a f left : Int} (h : Pst 0 side l r a f left) : sGo 0 side l r a f left ≤ 180000000 := by
  have hrt := sRt_r h
  obtain ⟨ho, hs, hl, hr, ha, h0, h1, hf, hle⟩ := h
  have e : sGo 0 side l r a f left = if side = 0 then snd' l (sRt 0 side l r a f left) r 0 else fst' l r (sRt 0 side l r a f left) 0 := by
    unfold sGo; rw [if_pos rfl]
  rw [e]
  generalize sRt 0 side l r a f left = r' at *
  rcases hs with rfl | rfl
  · have hL : Lab l r' r := ⟨hl, by have := hrt.1 rfl; omega, (hrt.1 rfl).2, by omega⟩
    have y := hL.y
    have h1 : l * (r - r') / 100000 < 26498401 := by
      rw [Int.ediv_lt_iff_lt_mul (by omega)]
      omega
    rw [if_pos rfl]
    show l * (r - r') / 100000 ≤ _
    omega
  · have hL : Lab l r r' := ⟨hl, by omega, (hrt.2 rfl).1, by have := (hrt.2 rfl).2; omega⟩
    have x := hL.x
    have hy : 1486410916 ≤ r * r' := by
      have := Int.mul_le_mul (a := 38554) (b := 38554) (c := r) (d := r') (by have := hL.2; omega) (by have := hL.2; omega) (by omega) (by have := hL.2; omega)
      omega
    have h1 : l * 100000 * (r' - r) / (r * r') < 180000001 := by
      rw [Int.ediv_lt_iff_lt_mul (by omega)]
      omega
    rw [if_neg (by omega)]
    show l * 100000 * (r' - r) / (r * r') ≤ _
    omega
section RD
variable {N T : Nat → Int} {L : List (Nat → Int)} {th pe po : Int}
theorem swp_gone {p : Nat} {side e : Int} (hb : Pbg p po side e 0) : ∀ (n : Nat) (ae : Bool) (s : SW), n ≤ 50 → WF s.1 T s.2.1 th pe po → s.2.1.length ≤ 12 → Pae p side e ae s → (0 ≤ s.2.2.2.2.1 ∧ s.2.2.2.2.1 ≤ 180000000 * (50 - (n : Int))) → 0 ≤ (swp T p side e 0 n ae s).2.2.2.2.1 ∧ (swp T p side e 0 n ae s).2.2.2.2.1 ≤ 9000000000 := by
  intro n
  induction n with
  | zero =>
    intro ae s hn W h12 ha hg
    have e1 : swp T p side e 0 0 ae s = s := rfl
    rw [e1]
    omega
  | succ n ih =>
    intro ae s hn W h12 ha hg
    have e2 : swp T p side e 0 (n + 1) ae s = if s.2.2.1 ≤ 0 ∨ ae = true then s else swp T p side e 0 n (xE s.1 T s.2.1 p side e 0 s.2.2.1) (swS T p side e 0 s) := rfl
    rw [e2]
    by_cases c : s.2.2.1 ≤ 0 ∨ ae = true
    · rw [if_pos c]
      omega
    · rw [if_neg c]
      have hgo := Pgo_of (T := T) hb ha c
      obtain ⟨w1, w2, w3, w4⟩ := swS_next hb ha c W h12
      obtain ⟨hP, hA, hA0, hA1, hrz⟩ := hgo.pst W h12
      have k3 : 0 ≤ xGo s.1 T s.2.1 p side e 0 s.2.2.1 := (sGo_nn hP).1
      have k4 : xGo s.1 T s.2.1 p side e 0 s.2.2.1 ≤ 180000000 := go_b hP
      have f2 : (swS T p side e 0 s).2.2.2.2.1 = w64 (s.2.2.2.2.1 + xGo s.1 T s.2.1 p side e 0 s.2.2.1) := rfl
      refine ih _ _ (by omega) w1 w2 w3 ?_
      rw [f2, w64_id (by omega) (by omega)]
      omega
theorem swap_gone (W : WF N T L th pe po) (h12 : L.length ≤ 12) {p : Nat} {side e amount : Int} (hb : Pbg p po side e 0) (ha : 0 < amount ∧ amount ≤ 10000000000) : 0 ≤ (swap N T L p side amount e 0).2.2.2.2.1 ∧ (swap N T L p side amount e 0).2.2.2.2.1 ≤ 9000000000 := by
  have hs := hb.2.2.1
  exact swp_gone hb 50 _ (N, L, amount, 0, 0, 0, 0) (by omega) W h12 ⟨fun q => ae0_ge hs q, by show 0 ≤ amount ∧ amount ≤ 10000000000; omega⟩ (by show (0 : Int) ≤ 0 ∧ (0 : Int) ≤ _; omega)
end RD
/-- the spare market and the reference's scalars alone have changed -/
theorem IV_mk3 {M M1 M2 : MZ} {N T : Nat → Int} {L : List (Nat → Int)} {th pe po : Int} (F1 : ∀ x, x ≠ 4 → ¬ (14 ≤ x ∧ x < 20) → ¬ (143 ≤ x ∧ x < 143 + 65) → sameH M M1 x) (hH : HP M1 143) (F2 : ∀ x, x ≠ 20 → x ≠ 23 → x ≠ 24 → sameH M1 M2 x) (f8 : zI M2 20 8 = zI M1 20 8) (R : Rep true M 78 N T L th pe po) (RR : RepR M2 N T L th pe po) (W : WF N T L th pe po) (hM : Mny N T L po) (hk : ∀ p : Nat, p < 5 → (p : Int) < po → Mrk N p) (ht : 0 ≤ N 0 ∧ N 0 ≤ 9999999) (K2 : KON M2) (hA : TAP M) : IV M2 := by
  have hs : ∀ h, h ≠ 4 → ¬ (14 ≤ h ∧ h < 20) → h < 143 → h ≠ 20 → h ≠ 23 → h ≠ 24 → sameH M M2 h := fun h h1 h2 h3 h4 h5 h6 => (F1 h h1 h2 (by omega)).trans (F2 h h4 h5 h6)
  refine ⟨N, T, L, th, pe, po, R.same (fun h h1 h2 => hs h (by omega) (by omega) (by omega) (by omega) (by omega) (by omega)), RR, W, hM, hk, ht, HP.same (fun i _ => (F2 146 (by omega) (by omega) (by omega) i).2.2) hH, K2, ?_⟩
  have e2 := hs 2 (by omega) (by omega) (by omega) (by omega) (by omega) (by omega)
  have e3 := hs 3 (by omega) (by omega) (by omega) (by omega) (by omega) (by omega)
  have e25 := hs 25 (by omega) (by omega) (by omega) (by omega) (by omega) (by omega)
  have e8 : zI M2 20 8 = zI M 20 8 := f8.trans (F1 20 (by omega) (by omega) (by omega) 8).1
  exact ⟨by rw [(e2 0).1]; exact hA.1, by rw [e8, (e2 0).1]; exact hA.2.1, fun j hj => by rw [(e25 j).1, (e3 j).1]; exact hA.2.2 j hj⟩
/-- the reference keeps its row at a level -/
theorem R_keepR {M : MZ} {N T : Nat → Int} {L : List (Nat → Int)} {th pe po : Int} (R : RepR M N T L th pe po) (K : KON M) {lv : Nat} (hlv : lv < 2) : ∃ M1, g_X12_keeps lv M = some ((), M1) ∧ RepR M1 N T L th pe po ∧ KON M1 ∧ (∀ x, x ≠ 24 → sameH M M1 x) ∧ (∀ k, zL M1 24 k = if 258 * lv ≤ k ∧ k < 258 * lv + 258 then zL M 23 (k - 258 * lv) else zL M 24 k) := by
  obtain ⟨M1, k1, k2, k3⟩ := R_keeps (lv := lv) hlv M
  refine ⟨M1, k1, ?_, K.mv (fun x hx => k2 x (by omega)), k2, k3⟩
  obtain ⟨⟨a0, a1, a2⟩, hT, hN, hn, hL, h12⟩ := R
  have s20 := k2 20 (by omega)
  have s22 := k2 22 (by omega)
  have s23 := k2 23 (by omega)
  exact ⟨⟨by rw [(s20 1).1]; exact a0, by rw [(s20 2).1]; exact a1, by rw [(s20 3).1]; exact a2⟩, fun j hj => by rw [(s22 j).1]; exact hT j hj, fun j hj => by rw [(s23 j).2.1]; exact hN j hj, by rw [(s23 137).2.1]; exact hn, fun i hi w hw => by rw [(s23 _).2.1]; exact hL i hi w hw, h12⟩
theorem R_round {Mx : MZ} {N T : Nat → Int} {L : List (Nat → Int)} {th pe po : Int} (RX : RepR Mx N T L th pe po) (KX : KON Mx) (W : WF N T L th pe po) {p : Nat} (hp5 : p < 5) (hq : (p : Int) < po) {side amount : Int} (hs : side = 0 ∨ side = 1) (ha : 1 ≤ amount ∧ amount ≤ 9999999) {s s2 : SW} (es : swap N T L p side amount (if side = 0 then 0 else 40) 0 = s) (es2 : swap s.1 T s.2.1 p (1 - side) s.2.2.2.2.1 (if 1 - side = 0 then 0 else 40) 0 = s2) : ∃ My, g_X12_round p side amount Mx = some (if 1 ≤ s.2.2.2.2.1 then w32 s2.2.2.2.2.1 else 0, My) ∧ RepR My N T L th pe po ∧ KON My ∧ (∀ x, x ≠ 20 → x ≠ 23 → x ≠ 24 → sameH Mx My x) ∧ zI My 20 8 = zI Mx 20 8 := by
  have h12 := RX.2.2.2.2.2
  have ha' : 0 < amount ∧ amount ≤ 10000000000 := by omega
  have he : 0 ≤ (if side = 0 then (0 : Int) else 40) ∧ (if side = 0 then (0 : Int) else 40) ≤ 40 := by split <;> omega
  have he2 : 0 ≤ (if 1 - side = 0 then (0 : Int) else 40) ∧ (if 1 - side = 0 then (0 : Int) else 40) ≤ 40 := by split <;> omega
  have hs2 : 1 - side = 0 ∨ 1 - side = 1 := by omega
  have ew : w32 (1 - side) = 1 - side := w32_id (by omega) (by omega)
  have hb : Pbg p po side (if side = 0 then 0 else 40) 0 := ⟨hp5, hq, hs, Or.inl rfl, he⟩
  have hb2 : Pbg p po (1 - side) (if 1 - side = 0 then 0 else 40) 0 := ⟨hp5, hq, hs2, Or.inl rfl, he2⟩
  have hgone := swap_gone W h12 hb ha'
  obtain ⟨My1, k1, k2, k3, k4, k5⟩ := R_keepR RX KX (lv := 0) (by omega)
  have k1' : g_X12_keeps 0 Mx = some ((), My1) := k1
  obtain ⟨My2, c1, c2, c3, c4, c5, c6, c7⟩ := R_swaps k2 k3 W hb ha'
  rw [es] at hgone c2 c3
  have hpool : 0 ≤ (p : Int) ∧ (p : Int) < zI Mx 20 3 := by rw [RX.1.2.2]; omega
  unfold g_X12_round g_X12_round_27
  rw [R_isPool]
  simp only [bindS, bI_0]
  rw [if_neg (fun q => q hpool), R_isSide]
  simp only [bindS, bI_0]
  rw [if_neg (fun q => q hs), R_isIn]
  simp only [bindS, bI_0]
  rw [if_neg (fun q => q ha), k1']
  simp only [bindS]
  rw [R_endOf]
  simp only [bindS]
  rw [c1]
  simp only [bindS]
  rw [c2.2.2.2.1]
  have fin : ∀ (Mz : MZ) (v4 g : Int), FrS My1 Mz → KON Mz → zL Mz 20 31 = g → ∃ My, g_X12_round_77 v4 Mz = some (if v4 = 0 then 0 else w32 g, My) ∧ RepR My N T L th pe po ∧ KON My ∧ (∀ x, x ≠ 20 → x ≠ 23 → x ≠ 24 → sameH Mx My x) ∧ zI My 20 8 = zI Mx 20 8 := by
    intro Mz v4 g F KZ hz
    obtain ⟨My, l1, l2, l3⟩ := R_laysBack (lv := 0) (by omega) Mz
    have l1' : g_X12_laysBack 0 Mz = some ((), My) := l1
    refine ⟨My, ?_, RX.back k4 k5 (fun k hk => F.2.1 k (by omega)) (F.1 22 (by omega) (by omega)) (fun k _ _ => (F.1 24 (by omega) (by omega) k).2.1) l2 l3, KZ.mv (fun x hx => l2 x (by omega)), fun x h1 h2 h3 => ((k4 x h3).trans (F.1 x h1 h2)).trans (l2 x h2), ?_⟩
    · unfold g_X12_round_77 g_X12_round_98
      rw [l1']
      simp only [bindS]
      rw [(l2 20 (by omega) 31).2.1, hz]
      by_cases c : v4 = 0
      · rw [if_pos c, if_pos c]
      · rw [if_neg c, if_neg c]
    · rw [(l2 20 (by omega) 8).1, F.2.1 8 (by omega), (k4 20 (by omega) 8).1]
  unfold g_X12_round_53
  by_cases cg : 1 ≤ s.2.2.2.2.1
  · rw [if_neg (show ¬ s.2.2.2.2.1 ≤ 0 by omega), if_pos cg, ew, R_endOf]
    simp only [bindS]
    obtain ⟨My3, d1, d2, d3, d4, d5, d6, d7⟩ := R_swaps c2.1 c4 c3 hb2 (amount := s.2.2.2.2.1) (by omega)
    rw [es2] at d2
    rw [d1]
    simp only [bindS]
    obtain ⟨My, f1, f2⟩ := fin My3 s.2.2.2.2.1 _ (c5.trans d5) d4 d2.2.2.2.1
    rw [if_neg (show ¬ s.2.2.2.2.1 = 0 by omega)] at f1
    exact ⟨My, f1, f2⟩
  · rw [if_pos (show s.2.2.2.2.1 ≤ 0 by omega), if_neg cg]
    obtain ⟨My, f1, f2⟩ := fin My2 s.2.2.2.2.1 _ c5 c4 c2.2.2.2.1
    rw [if_pos (show s.2.2.2.2.1 = 0 by omega)] at f1
    exact ⟨My, f1, f2⟩
theorem q_round {M : MZ} (h : IV M) (p side amount : Int) : ∃ r M1 M2, g_X11_round p side amount M = some (r, M1) ∧ g_X12_round p side amount M1 = some (r, M2) ∧ IV M2 := by
  have h0 := h
  obtain ⟨N, T, L, th, pe, po, R, RR, W, hM, hk, ht, hH, K, hA⟩ := h
  have hpe := W.1.r
  have h12 := R.2.2.2.2.2.2
  by_cases hp : (0 ≤ p ∧ p < po) ∧ (side = 0 ∨ side = 1) ∧ (1 ≤ amount ∧ amount ≤ 9999999)
  · have hp' := hp
    obtain ⟨hp, hs, ha⟩ := hp
    obtain ⟨p, rfl⟩ := zR_nat hp.1
    have hp5 : p < 5 := by omega
    have ha' : 0 < amount ∧ amount ≤ 10000000000 := by omega
    have he : 0 ≤ (if side = 0 then (0 : Int) else 40) ∧ (if side = 0 then (0 : Int) else 40) ≤ 40 := by split <;> omega
    have he2 : 0 ≤ (if 1 - side = 0 then (0 : Int) else 40) ∧ (if 1 - side = 0 then (0 : Int) else 40) ≤ 40 := by split <;> omega
    have hs2 : 1 - side = 0 ∨ 1 - side = 1 := by omega
    have ew : w32 (1 - side) = 1 - side := w32_id (by omega) (by omega)
    have hb : Pbg p po side (if side = 0 then 0 else 40) 0 := ⟨hp5, hp.2, hs, Or.inl rfl, he⟩
    have hb2 : Pbg p po (1 - side) (if 1 - side = 0 then 0 else 40) 0 := ⟨hp5, hp.2, hs2, Or.inl rfl, he2⟩
    obtain ⟨M1, a1, a2, a3⟩ := K_copyFrom b143 b78 (by omega) R hpe.2.2 hH
    have A2 := a2.weak
    obtain ⟨M2, b1, b2⟩ := K_pour1 b143 A2 W hb (MkO_false b143 A2 hp5 _) ⟨rfl, rfl⟩ ha' (per := -1) (Or.inl rfl)
    have hgone := swap_gone W h12 hb ha'
    have hWs := swap_WF0 W h12 hb ha'
    have hQ := fun (Mx : MZ) (RX : RepR Mx N T L th pe po) (KX : KON Mx) (s s2 : SW) es es2 => R_round (s := s) (s2 := s2) RX KX W hp5 hp.2 hs ha es es2
    generalize swap N T L p side amount (if side = 0 then 0 else 40) 0 = s at *
    obtain ⟨B0, _, ⟨b4, b5, b6⟩, b7⟩ := b2
    have F12 : ∀ x, x ≠ 4 → ¬ (14 ≤ x ∧ x < 20) → ¬ (143 ≤ x ∧ x < 143 + 65) → sameH M M2 x := fun x h1 _ h3 => (a3 x h3).trans (b7 x h1 h3)
    unfold g_X11_round
    rw [K_canAsk M R hpe.2.2.2]
    simp only [bindS, bI_0]
    rw [if_neg (fun q => q hp'), a1]
    simp only [bindS]
    rw [K_lastTick]
    simp only [bindS]
    rw [b1]
    simp only [bindS]
    rw [b5, ew]
    by_cases cg : 1 ≤ s.2.2.2.2.1
    · rw [if_pos cg, K_lastTick]
      simp only [bindS]
      have B := B0 rfl
      obtain ⟨M3, d1, d2⟩ := K_pour1 b143 B hWs.1 hb2 (MkO_false b143 B hp5 _) ⟨rfl, rfl⟩ (amount := s.2.2.2.2.1) (by omega) (per := -1) (Or.inl rfl)
      obtain ⟨D0', _, ⟨d4, d5, d6⟩, d7⟩ := d2
      rw [d1]
      simp only [bindS]
      rw [d5]
      have F13 : ∀ x, x ≠ 4 → ¬ (14 ≤ x ∧ x < 20) → ¬ (143 ≤ x ∧ x < 143 + 65) → sameH M M3 x := fun x h1 h2 h3 => (F12 x h1 h2 h3).trans (d7 x h1 h3)
      obtain ⟨My, f1, f2, f3, f4, f5⟩ := hQ M3 (RR.same (fun x h1 h2 => F13 x (by omega) (by omega) (by omega))) (K.mv (fun x hx => F13 x (by omega) (by omega) (by omega))) s _ rfl rfl
      rw [if_pos cg] at f1
      exact ⟨_, M3, My, rfl, f1, IV_mk3 F13 (D0' rfl).2.2.2.2.2.1 f4 f5 R f2 W hM hk ht f3 hA⟩
    · rw [if_neg cg]
      obtain ⟨My, f1, f2, f3, f4, f5⟩ := hQ M2 (RR.same (fun x h1 h2 => F12 x (by omega) (by omega) (by omega))) (K.mv (fun x hx => F12 x (by omega) (by omega) (by omega))) s _ rfl rfl
      rw [if_neg cg] at f1
      exact ⟨_, M2, My, rfl, f1, IV_mk3 F12 (B0 rfl).2.2.2.2.2.1 f4 f5 R f2 W hM hk ht f3 hA⟩
  · refine ⟨-1, M, M, ?_, ?_, h0⟩
    · unfold g_X11_round
      rw [K_canAsk M R hpe.2.2.2]
      simp only [bindS, bI_0]
      rw [if_pos hp]
    · unfold g_X12_round g_X12_round_27
      rw [R_isPool, RR.1.2.2]
      simp only [bindS, bI_0]
      by_cases c1 : 0 ≤ p ∧ p < po
      · rw [if_neg (fun q => q c1), R_isSide]
        simp only [bindS, bI_0]
        by_cases c3 : side = 0 ∨ side = 1
        · rw [if_neg (fun q => q c3), R_isIn]
          simp only [bindS, bI_0]
          rw [if_pos (fun q => hp ⟨c1, c3, q⟩)]
        · rw [if_pos c3]
      · rw [if_pos c1]
theorem ok_round (a b c : Int32) : SO INV (f_X11_round a b c) (f_X12_round a b c) := SO_of (IV := IV) (fun _ => l_X11_round rfl rfl rfl rfl) (fun _ => l_X12_round rfl rfl rfl rfl) (fun _ h => q_round h _ _ _)
