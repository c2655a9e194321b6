/-! a clause is read: both side by side -/
section MC9
variable {n : Nat} {B : Nat → Int}
theorem sim_pool (b : BO n B) {i po c : Nat} (hc : 0 < c) (hpo : po < 5) {Mc Mr : MZ} (hS : SR n B i Mc Mr) (hm : MS Mc Mr c po) : ∃ (fl : Int) (Mc' Mr' : MZ), g_X3_readPool Mc = some (fl, Mc') ∧ g_X12_readsPool_21 100000 0 Mr = some (fl, Mr') ∧ CM Mc Mc' ∧ RM Mr Mr' ∧ ClOK n B (c + 1) fl Mc' Mr' := by
  have hm' := hm
  obtain ⟨⟨x1, x2, x3⟩, ⟨y1, y2, y3⟩, z0, z1, hp, hq, K⟩ := hm'
  have z1' := z1 hc
  obtain ⟨u1, u2, u3, u4⟩ := z1'
  have kh0 := kdp b143 hpo
  obtain ⟨h, eh⟩ : ∃ h, 143 + 2 + 2 + 5 * po = h := ⟨_, rfl⟩
  have hh : 147 ≤ h ∧ h < 172 := by omega
  rw [eh] at kh0
  have cm0 : CM Mc (uI Mc 143 2 ((po + 1 : Nat) : Int)) := CM_u (by omega)
  generalize eth : zI Mr 20 24 = th at *
  obtain ⟨Mc0, e0⟩ : ∃ Mc0, uI Mc 143 2 ((po + 1 : Nat) : Int) = Mc0 := ⟨_, rfl⟩
  have A0 : AC n B Mc0 Mr h po th 0 Mc0 Mr := by
    rw [← e0]
    exact ⟨⟨i, hS.cm cm0 RF.rfl.rm (by rw [zI_uI, if_neg (by omega)]) rfl⟩, CF.rfl.cm, RF.rfl.rm, fun _ _ _ _ => rfl, fun _ _ _ _ => rfl, fun _ _ => rfl, fun _ => rfl, fun i hi => absurd hi (by omega)⟩
  have t0 : zI Mc0 143 0 = th := by rw [← e0, zI_uI, if_neg (by omega)]; exact u1
  rw [e0] at cm0
  have bad : ∀ {Mc' Mr' : MZ}, CM Mc0 Mc' → RM Mr Mr' → zI Mr' 20 10 = zI Mc' 2 1 → ∀ {A C : Option (Int × MZ)}, A = some (0, Mc') → C = some (0, Mr') → ∃ (fl : Int) (Mc' Mr' : MZ), A = some (fl, Mc') ∧ C = some (fl, Mr') ∧ CM Mc Mc' ∧ RM Mr Mr' ∧ ClOK n B (c + 1) fl Mc' Mr' := fun h1 h2 h3 A C e1 e2 => ⟨0, _, _, e1, e2, cm0.trans h1, h2, Or.inr ⟨rfl, h3⟩⟩
  have ew : w32 (th - 1) = th - 1 := w32_id (by omega) (by omega)
  have hnp : g_X2_newPool 143 Mc = some (h, Mc0) := by rw [← eh, ← e0]; exact K_newPool b143 hpo x1
  unfold g_X3_readPool g_X3_readPool_32 g_X3_readPool_183
  rw [hnp]
  simp only [bindS]
  rw [if_neg (by omega), t0, ew]
  -- number 0
  obtain ⟨f0, C0, R0, a1, a2, a3, a4, a5, a6⟩ := pool_step b A0 hh (j := 0) (by omega) (by omega) eth x2 u2 hpo
  have a1' : g_X9_readNumber 0 (th - 1) Mc0 = some (f0, C0) := a1
  have a2' : g_X12_readsPool_21 100000 0 Mr = _ := a2 99999
  rw [a1', a2']
  simp only [bindS]
  rcases a6 with ⟨rfl, ef⟩ | ⟨rfl, A1⟩
  · rw [if_pos rfl, if_pos rfl]
    exact bad a3 a4 ef rfl rfl
  rw [if_neg (show ¬ (1 : Int) = 0 by omega), if_neg (show ¬ (1 : Int) = 0 by omega), if_pos kh0]
  rw [if_pos (show 0 < 5 by omega)] at A1
  -- number 1
  generalize uI C0 h 0 (zI C0 2 2) = D1 at *
  generalize uI R0 26 (7 * po + 0) (zI C0 2 2) = E1 at *
  have t1 : zI D1 143 0 = th := by rw [A1.2.2.2.1 143 0 (by omega) (by omega)]; exact t0
  obtain ⟨f1, C1, R1, b1, b2, b3, b4, b6⟩ := pool_step1 b A1 hh eth x2 u2 hpo
  have b2' : g_X12_readsPool_21 99999 ((0 + 1 : Nat) : Int) E1 = _ := b2 99998
  rw [t1, ew, b1, b2']
  simp only [bindS]
  rcases b6 with ⟨rfl, ef⟩ | ⟨rfl, A2⟩
  · rw [if_pos rfl, if_pos rfl]
    exact bad b3 b4 ef rfl rfl
  rw [if_neg (show ¬ (1 : Int) = 0 by omega), if_neg (show ¬ (1 : Int) = 0 by omega)]
  generalize uI C1 h 1 (zI C1 2 2) = D2 at *
  generalize uI R1 26 (7 * po + 1) (zI C1 2 2) = E2 at *
  -- number 2
  obtain ⟨f2, C2, R2, c1, c2, c3, c4, c5, c6⟩ := pool_step b A2 hh (j := 2) (by omega) (by omega) eth x2 u2 hpo
  have c1' : g_X9_readNumber 0 99 D2 = some (f2, C2) := c1
  have c2' : g_X12_readsPool_21 99998 2 E2 = _ := c2 99997
  rw [c1', c2']
  simp only [bindS]
  rcases c6 with ⟨rfl, ef⟩ | ⟨rfl, A3⟩
  · rw [if_pos rfl, if_pos rfl]
    exact bad c3 c4 ef rfl rfl
  rw [if_neg (show ¬ (1 : Int) = 0 by omega), if_neg (show ¬ (1 : Int) = 0 by omega)]
  rw [if_pos (show 2 < 5 by omega)] at A3
  generalize uI C2 h 2 (zI C2 2 2) = D3 at *
  generalize uI R2 26 (7 * po + 2) (zI C2 2 2) = E3 at *
  -- number 3
  obtain ⟨f3, C3, R3, d1, d2, d3, d4, d5, d6⟩ := pool_step b A3 hh (j := 3) (by omega) (by omega) eth x2 u2 hpo
  have d1' : g_X9_readNumber 0 100 D3 = some (f3, C3) := d1
  have d2' : g_X12_readsPool_21 99997 ((2 + 1 : Nat) : Int) E3 = _ := d2 99996
  rw [d1', d2']
  simp only [bindS]
  rcases d6 with ⟨rfl, ef⟩ | ⟨rfl, A4⟩
  · rw [if_pos rfl, if_pos rfl]
    exact bad d3 d4 ef rfl rfl
  rw [if_neg (show ¬ (1 : Int) = 0 by omega), if_neg (show ¬ (1 : Int) = 0 by omega)]
  rw [if_pos (show 3 < 5 by omega)] at A4
  generalize uI C3 h 3 (zI C3 2 2) = D4 at *
  generalize uI R3 26 (7 * po + 3) (zI C3 2 2) = E4 at *
  -- number 4
  obtain ⟨f4, C4, R4, g1, g2, g3, g4, g5, g6⟩ := pool_step b A4 hh (j := 4) (by omega) (by omega) eth x2 u2 hpo
  have g1' : g_X9_readNumber 1 10 D4 = some (f4, C4) := g1
  have g2' : g_X12_readsPool_21 99996 ((3 + 1 : Nat) : Int) E4 = _ := g2 99995
  rw [g1', g2']
  simp only [bindS]
  rcases g6 with ⟨rfl, ef⟩ | ⟨rfl, A5⟩
  · rw [if_pos rfl, if_pos rfl]
    exact bad g3 g4 ef rfl rfl
  rw [if_neg (show ¬ (1 : Int) = 0 by omega), if_neg (show ¬ (1 : Int) = 0 by omega)]
  rw [if_pos (show 4 < 5 by omega)] at A5
  generalize uI C4 h 4 (zI C4 2 2) = D5 at *
  generalize uI R4 26 (7 * po + 4) (zI C4 2 2) = E5 at *
  -- number 5
  obtain ⟨f5, C5, R5, i1, i2, i3, i4, i5, i6⟩ := pool_step b A5 hh (j := 5) (by omega) (by omega) eth x2 u2 hpo
  have i1' : g_X9_readNumber 1 9999 D5 = some (f5, C5) := i1
  have i2' : g_X12_readsPool_21 99995 ((4 + 1 : Nat) : Int) E5 = _ := i2 99994
  rw [i1', i2']
  simp only [bindS]
  rcases i6 with ⟨rfl, ef⟩ | ⟨rfl, A6⟩
  · rw [if_pos rfl, if_pos rfl]
    exact bad i3 i4 ef rfl rfl
  rw [if_neg (show ¬ (1 : Int) = 0 by omega), if_neg (show ¬ (1 : Int) = 0 by omega)]
  rw [if_neg (show ¬ 5 < 5 by omega)] at A6
  have hE6 : zI (uI R5 26 (7 * po + 5) (zI C5 2 2)) 26 (7 * po + 5) = zI C5 2 2 := zI_at _ _ _ _
  generalize uI R5 26 (7 * po + 5) (zI C5 2 2) = E6 at *
  -- number 6
  obtain ⟨f6, C6, R6, j1, j2, j3, j4, j5, j6⟩ := pool_step b A6 hh (j := 6) (by omega) (by omega) eth x2 u2 hpo
  have j1' : g_X9_readNumber 1 9999 C5 = some (f6, C6) := j1
  have j2' : g_X12_readsPool_21 99994 ((5 + 1 : Nat) : Int) E6 = _ := j2 99993
  rw [j1', j2']
  simp only [bindS]
  rcases j6 with ⟨rfl, ef⟩ | ⟨rfl, A7⟩
  · rw [if_pos rfl, if_pos rfl]
    exact bad j3 j4 ef rfl rfl
  rw [if_neg (show ¬ (1 : Int) = 0 by omega), if_neg (show ¬ (1 : Int) = 0 by omega), if_pos kh0]
  rw [if_neg (show ¬ 6 < 5 by omega)] at A7
  have hE7 : zI (uI R6 26 (7 * po + 6) (zI C6 2 2)) 26 (7 * po + 6) = zI C6 2 2 := zI_at _ _ _ _
  have hE75 : zI (uI R6 26 (7 * po + 6) (zI C6 2 2)) 26 (7 * po + 5) = zI C5 2 2 := by rw [zI_uI, if_neg (by omega), j5, hE6]
  generalize uI R6 26 (7 * po + 6) (zI C6 2 2) = E7 at *
  obtain ⟨⟨k, hk⟩, q2, q3, q4, q5, q6, q7, q8⟩ := A7
  have r5 := q8 5 (by omega)
  have r6 := q8 6 (by omega)
  rw [hE75] at r5
  rw [hE7] at r6
  have r5' : 1 ≤ zI C5 2 2 ∧ zI C5 2 2 ≤ 9999 := ⟨r5.2.1, r5.2.2.1⟩
  have r6' : 1 ≤ zI C6 2 2 ∧ zI C6 2 2 ≤ 9999 := ⟨r6.2.1, r6.2.2.1⟩
  obtain ⟨M', v, l1, l2, l3, l4, l5, l6, l7, l8, l9, l10, l11, l12⟩ := K_open kh0 r5' r6' C6
  rw [l1]
  simp only [bindS]
  have e26 : zI E7 20 26 = po := by rw [q5 26 (by omega) (by omega) (by omega)]; exact x2
  have hend : g_X12_readsPool_21 99993 ((6 + 1 : Nat) : Int) E7 = some (1, uI E7 20 26 ((po + 1 : Nat) : Int)) := by
    have e : g_X12_readsPool_21 99993 ((6 + 1 : Nat) : Int) E7 = g_X12_readsPool_21B (g_X12_readsPool_21 99992) ((6 + 1 : Nat) : Int) E7 := rfl
    rw [e]
    unfold g_X12_readsPool_21B
    rw [if_pos (by omega), e26, w32_id (by omega) (by omega)]
    rfl
  rw [hend]
  have cmo : CM C6 M' := ⟨fun x a1 a2 => l3 x (by omega), (l3 2 (by omega) 0).1, fun k => l12 _ _⟩
  have rmo : RM E7 (uI E7 20 26 ((po + 1 : Nat) : Int)) := RM_u20 (by omega)
  refine ⟨1, _, _, rfl, rfl, (cm0.trans q2).trans cmo, q3.trans rmo, Or.inl ⟨rfl, ⟨k, hk.cm cmo rmo (l3 2 (by omega) 5).1 (by rw [zI_uI, if_neg (by omega)])⟩, po + 1, ?_⟩⟩
  have g143 : ∀ k, k ≠ 2 → zI M' 143 k = zI Mc 143 k := fun k hk2 => by
    rw [(l3 143 (by omega) k).1, q4 143 k (by omega) (by omega), ← e0, zI_uI, if_neg (fun q => hk2 q.2)]
  have g1432 : zI M' 143 2 = ((po + 1 : Nat) : Int) := by
    rw [(l3 143 (by omega) 2).1, q4 143 2 (by omega) (by omega), ← e0]
    exact zI_at _ _ _ _
  have g20 : ∀ k, k ≠ 9 → k ≠ 10 → k ≠ 11 → k ≠ 26 → zI (uI E7 20 26 ((po + 1 : Nat) : Int)) 20 k = zI Mr 20 k := fun k k1 k2 k3 k4 => by
    rw [zI_uI, if_neg (fun q => k4 q.2)]
    exact q5 k k1 k2 k3
  have g24 : zI (uI E7 20 26 ((po + 1 : Nat) : Int)) 20 24 = th := by rw [g20 24 (by omega) (by omega) (by omega) (by omega)]; exact eth
  have h26 : ∀ k, zI (uI E7 20 26 ((po + 1 : Nat) : Int)) 26 k = zI E7 26 k := fun k => by rw [zI_uI, if_neg (by omega)]
  rw [MS, g24]
  refine ⟨⟨g1432, zI_at _ _ _ _, by omega⟩, ⟨by rw [g143 3 (by omega)]; exact y1, by rw [g143 4 (by omega)]; exact y2, by rw [g143 5 (by omega)]; exact y3⟩, fun q => absurd q (by omega), fun _ => ⟨by rw [g143 0 (by omega)]; exact u1, u2, by rw [g143 1 (by omega), g20 25 (by omega) (by omega) (by omega) (by omega)]; exact u3, by rw [g20 25 (by omega) (by omega) (by omega) (by omega)]; exact u4⟩, fun j hj => ?_, fun q hq' => ?_, (K.rm q3).rm rmo⟩
  · have e1 : zI M' 144 j = zI Mc 144 j := by rw [(l3 144 (by omega) j).1, q4 144 j (by omega) (by omega), ← e0, zI_uI, if_neg (by omega)]
    have e2 : zI (uI E7 20 26 ((po + 1 : Nat) : Int)) 27 j = zI Mr 27 j := by rw [zI_uI, if_neg (by omega)]; exact q7 j
    rw [e1, e2]
    exact hp j hj
  · by_cases cq : q = po
    · subst cq
      have a0 := q8 0 (by omega)
      have a1 := q8 1 (by omega)
      have a2 := q8 2 (by omega)
      have a3 := q8 3 (by omega)
      have a4 := q8 4 (by omega)
      have e00 : 7 * q + 0 = 7 * q := rfl
      rw [e00] at a0
      unfold PL
      rw [eh]
      simp only [h26]
      rw [hE75, hE7]
      have hA0 : 0 ≤ zI E7 26 (7 * q) ∧ zI E7 26 (7 * q) ≤ th - 1 := ⟨a0.2.1, a0.2.2.1⟩
      have hA1 : 0 ≤ zI E7 26 (7 * q + 1) ∧ zI E7 26 (7 * q + 1) ≤ th - 1 := ⟨a1.2.1, a1.2.2.1⟩
      refine ⟨fun j hj => ?_, ⟨by omega, by omega, fun w => a1.2.2.2 rfl w.symm, ⟨a2.2.1, a2.2.2.1⟩, ⟨a3.2.1, a3.2.2.1⟩, ⟨a4.2.1, a4.2.2.1⟩⟩, ⟨r5', r6'⟩, ⟨v, l5, l2, l6⟩, l7, l8, l9, l10, l11⟩
      rw [l4 j hj]
      exact (q8 j (by omega)).1 hj
    · refine (hq q (by omega)).mv (by omega) rfl (fun x h1 h2 k => ?_) (fun j hj => ?_)
      · rw [(l3 x (by omega) k).1, q4 x k (by omega) (by omega), ← e0, zI_uI, if_neg (by omega)]
      · rw [h26]
        exact q6 _ (by omega)
end MC9
