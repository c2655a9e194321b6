/-! market -/
theorem Rep.cgNT {kk : Bool} {M : MZ} {b : Nat} {N N' T T' : Nat → Int} {L : List (Nat → Int)} {th pe po : Int} (R : Rep kk M b N T L th pe po) (h0 : N' 0 = N 0) (h1 : N' 1 = N 1) (hu : ∀ j, j < 20 → N' (2 + j) = N (2 + j)) (hp : ∀ p : Nat, p < 5 → (p : Int) < po → ∀ w, w < 23 → N' (22 + 23 * p + w) = N (22 + 23 * p + w)) (ht : ∀ p : Nat, p < 5 → (p : Int) < po → ∀ j, j < 5 → T' (5 * p + j) = T (5 * p + j)) : Rep kk M b N' T' L th pe po := by
  obtain ⟨⟨a0, a1, a2, a3, a4, a5⟩, r2, r3, r4, r5⟩ := R
  refine ⟨⟨a0, a1, a2, a3, by rw [h0]; exact a4, by rw [h1]; exact a5⟩, fun j hj => by rw [hu j hj]; exact r2 j hj, fun p p5 pq j hj => by rw [ht p p5 pq j hj]; exact r3 p p5 pq j hj, fun p p5 pq w hw hk => ?_, r5⟩
  rw [hp p p5 pq w hw]
  rw [hp p p5 pq 6 (by omega)] at hk
  exact r4 p p5 pq w hw hk
def mN (Mc : MZ) (j : Nat) : Int := if j < 2 then 0 else if j < 22 then zI Mc 144 (j - 2) else if (j - 22) % 23 = 0 then zI Mc (143 + 2 + 2 + 5 * ((j - 22) / 23)) 5 else if (j - 22) % 23 = 1 then zI Mc (143 + 2 + 2 + 5 * ((j - 22) / 23)) 6 else if (j - 22) % 23 = 6 then 1 else 0
def mT (Mc : MZ) (j : Nat) : Int := zI Mc (143 + 2 + 2 + 5 * (j / 5)) (j % 5)
theorem mN_p (Mc : MZ) (p : Nat) {w : Nat} (hw : w < 23) : mN Mc (22 + 23 * p + w) = if w = 0 then zI Mc (143 + 2 + 2 + 5 * p) 5 else if w = 1 then zI Mc (143 + 2 + 2 + 5 * p) 6 else if w = 6 then 1 else 0 := by
  unfold mN
  have e1 : (22 + 23 * p + w - 22) % 23 = w := by omega
  have e2 : (22 + 23 * p + w - 22) / 23 = p := by omega
  rw [if_neg (by omega), if_neg (by omega), e1, e2]
theorem mT_p (Mc : MZ) (p : Nat) {j : Nat} (hj : j < 5) : mT Mc (5 * p + j) = zI Mc (143 + 2 + 2 + 5 * p) j := by
  unfold mT
  rw [show (5 * p + j) / 5 = p by omega, show (5 * p + j) % 5 = j by omega]
theorem SQ_rz {pr v : Int} (h : SQ pr v) : Rzz v (zof v) := by
  have hr := zof_r h.1.1
  refine ⟨by omega, (zof_iff h.1.1 hr.1 hr.2).mpr (Int.le_refl _), ?_⟩
  by_cases c : zof v = 39
  · rw [c]
    have : rtz (39 + 1) = 259374 := by decide +kernel
    have := h.1.2
    omega
  · have := zof_iff (r := v) (k := zof v + 1) h.1.1 (by omega) (by omega)
    omega
theorem mRep {Mc Mr Y : MZ} {c po : Nat} (hc : 0 < c) (h : MS Mc Mr c po) (hY : ∀ x, x ≠ 2 → sameH Mc Y x) (hH : HP Mc 143) : Rep true Y 143 (mN Mc) (mT Mc) [] (zI Mr 20 24) (zI Mr 20 25) po := by
  obtain ⟨⟨x1, x2, x3⟩, ⟨y1, y2, y3⟩, h0, h1, hp, hq, K⟩ := h
  obtain ⟨u1, u2, u3, u4⟩ := h1 hc
  have s := hY 143 (by omega)
  have s1 := hY 144 (by omega)
  refine ⟨⟨by rw [(s 0).1]; exact u1, by rw [(s 1).1]; exact u3, by rw [(s 2).1]; exact x1, by rw [(s 3).1]; exact y1, by rw [(s 4).1]; exact y2, by rw [(s 5).1]; exact y3⟩, fun j hj => ?_, fun p p5 pq j hj => ?_, fun p p5 pq w hw hk => ?_, fun i hi => absurd hi (by simp), HP.same (fun i _ => (hY 146 (by omega) i).2.2) hH, by simp⟩
  · have e : mN Mc (2 + j) = zI Mc 144 j := by
      unfold mN
      rw [if_neg (by omega), if_pos (by omega), show 2 + j - 2 = j by omega]
    have := hp j hj
    rw [e, this.1, w32_id (by omega) (by omega)]
    show zI Y 144 j = _
    rw [(s1 j).1]
    exact this.1
  · rw [mT_p _ _ hj, (hY _ (by omega) j).1]
  · obtain ⟨l1, l2, l3, ⟨v, l4, l5, l6⟩, l7, l8, l9, l10, l11⟩ := hq p (by omega)
    have hz := zof_r l5.1.1
    have w9 : w < 9 := by
      have e6 : mN Mc (22 + 23 * p + 6) = 1 := by rw [mN_p _ _ (by omega)]; rfl
      rw [e6] at hk
      omega
    have pl := pad_lt w
    rw [mN_p _ _ hw, (hY _ (by omega) _).1]
    rcases (show w = 0 ∨ w = 1 ∨ w = 2 ∨ w = 3 ∨ w = 4 ∨ w = 5 ∨ w = 6 ∨ w = 7 ∨ w = 8 by omega) with rfl | rfl | rfl | rfl | rfl | rfl | rfl | rfl | rfl
    · show zI Mc (143 + 2 + 2 + 5 * p) 5 = w32 (zI Mc (143 + 2 + 2 + 5 * p) 5)
      rw [l4, w32_id (by have := l5.1; omega) (by have := l5.1; omega)]
    · show zI Mc (143 + 2 + 2 + 5 * p) 6 = w32 (zI Mc (143 + 2 + 2 + 5 * p) 6)
      rw [l6, w32_id (by omega) (by omega)]
    · exact l8.1
    · exact l8.2
    · exact l9.1
    · exact l9.2
    · exact l7
    · exact l10
    · exact l11
/-- the reference's start of reading -/
theorem R_readsAll0 {n : Nat} {B : Nat → Int} {X : MZ} (hT : TR n B X) (K : KON X) : ∃ Mr, g_X12_readsAll X = g_X12_readsAll_38 100000 0 Mr ∧ RM X Mr ∧ zI Mr 20 9 = 0 ∧ zI Mr 20 24 = 0 ∧ zI Mr 20 26 = 0 ∧ (∀ j, j < 20 → zI Mr 27 j = 0) ∧ TR n B Mr := by
  have lp : ∀ (d k f : Nat) (Mx : MZ), k + d = 20 → d < f → (∀ j, j < k → zI Mx 27 j = 0) → ∃ M', g_X12_readsAll_12 f k Mx = g_X12_readsAll_38 100000 0 (uI M' 20 9 0) ∧ (∀ x, x ≠ 27 → sameH Mx M' x) ∧ (∀ j, j < 20 → zI M' 27 j = 0) := by
    intro d
    induction d with
    | zero =>
      intro k f Mx hk hf hz
      obtain ⟨f, rfl⟩ : ∃ g, f = g + 1 := ⟨f - 1, by omega⟩
      have e : g_X12_readsAll_12 (f + 1) k Mx = g_X12_readsAll_12B (g_X12_readsAll_12 f) k Mx := rfl
      refine ⟨Mx, ?_, fun _ _ => sameH.rfl, fun j hj => hz j (by omega)⟩
      rw [e]
      unfold g_X12_readsAll_12B
      rw [if_pos (by omega)]
    | succ d ih =>
      intro k f Mx hk hf hz
      obtain ⟨f, rfl⟩ : ∃ g, f = g + 1 := ⟨f - 1, by omega⟩
      have e : g_X12_readsAll_12 (f + 1) k Mx = g_X12_readsAll_12B (g_X12_readsAll_12 f) k Mx := rfl
      rw [e]
      unfold g_X12_readsAll_12B
      rw [if_neg (by omega), if_pos (by omega), Int.toNat_natCast, w32_id (by omega) (by omega)]
      obtain ⟨M', a1, a2, a3⟩ := ih (k + 1) f (uI Mx 27 k 0) (by omega) (by omega) (fun j hj => by
        by_cases c : j = k
        · subst c; exact zI_at _ _ _ _
        · rw [zI_uI, if_neg (fun q => c q.2)]; exact hz j (by omega))
      exact ⟨M', a1, fun x hx => (sameH_uI hx).trans (a2 x hx), a3⟩
  obtain ⟨M1, a1, a2, a3⟩ := lp 20 0 100000 (uI (uI X 20 24 0) 20 26 0) (by omega) (by omega) (fun j hj => absurd hj (by omega))
  have s20 := a2 20 (by omega)
  have rm : RM X (uI M1 20 9 0) := by
    refine ⟨fun x h1 h2 h3 => (((sameH_uI h1).trans (sameH_uI h1)).trans (a2 x h3)).trans (sameH_uI h1), fun k k1 k2 k3 k4 k5 k6 => ?_, fun k => ?_⟩
    · rw [zI_uI, if_neg (fun q => k1 q.2), (s20 k).1, zI_uI, if_neg (fun q => k6 q.2), zI_uI, if_neg (fun q => k4 q.2)]
    · show zL M1 20 k = zL X 20 k
      rw [(s20 k).2.1]
      rfl
  refine ⟨uI M1 20 9 0, a1, rm, zI_at _ _ _ _, ?_, ?_, fun j hj => ?_, ?_⟩
  · rw [zI_uI, if_neg (by omega), (s20 24).1, zI_uI, if_neg (by omega), zI_at]
  · rw [zI_uI, if_neg (by omega), (s20 26).1, zI_at]
  · rw [zI_uI, if_neg (by omega)]
    exact a3 j hj
  · exact ⟨by rw [rm.2.1 8 (by omega) (by omega) (by omega) (by omega) (by omega) (by omega)]; exact hT.1, fun k hk => by rw [(rm.1 25 (by omega) (by omega) (by omega) k).1]; exact hT.2 k hk⟩
theorem q_market {M : MZ} (h : IV M) : ∃ r M1 M2, g_X11_market M = some (r, M1) ∧ g_X12_market M1 = some (r, M2) ∧ IV M2 := by
  obtain ⟨N, T, L, th, pe, po, R, RR, W, hM, hk, ht, hH, K, hA⟩ := h
  obtain ⟨n, en⟩ := zR_nat hA.1.1
  have n4 : n ≤ 400 := by have := hA.1.2; omega
  obtain ⟨B, eB⟩ : ∃ B : Nat → Int, B = fun k => if k < n then and32 (zI M 3 k) 255 else -1 := ⟨_, rfl⟩
  have b : BO n B := ⟨n4, fun k hk' => by rw [eB]; exact if_neg (by omega)⟩
  have Bk : ∀ k, k < n → and32 (zI M 3 k) 255 = B k := fun k hk' => by rw [eB]; exact (if_pos hk').symm
  obtain ⟨C1, c1, c2, c3, c4, c5⟩ := K_clear (uI (uI M 2 5 0) 2 1 0)
  have cmC : CM M C1 := by
    refine ⟨fun x h1 h2 => ((sameH_uI h1).trans (sameH_uI h1)).trans (c2 x (by omega) (by omega)), ?_, fun k => by rw [c5]; rfl⟩
    rw [(c2 2 (by omega) (by omega) 0).1, zI_uI, if_neg (by omega), zI_uI, if_neg (by omega)]
  have T1 : TC n B C1 := ⟨by rw [cmC.2.1]; exact en, fun k hk' => by rw [(cmC.1 3 (by omega) (by omega) k).1]; exact Bk k hk'⟩
  have p5 : zI C1 2 5 = ((0 : Nat) : Int) := by
    rw [(c2 2 (by omega) (by omega) 5).1, zI_uI, if_neg (by omega)]
    exact zI_at _ _ _ _
  have hcls : ∀ fl Mc', g_X3_read_16 100000 ((0 : Nat) : Int) C1 = some (fl, Mc') → g_X3_read M = some (fl, Mc') := fun fl Mc' e => by
    unfold g_X3_read g_X9_rewind
    simp only [bindS]
    rw [c1]
    simp only [bindS]
    exact e
  -- both, the reference from any memory X that still has the tape
  have both : ∀ X : MZ, TR n B X → KON X → ∃ (fl : Int) (Mc' Mr' : MZ), g_X3_read_16 100000 ((0 : Nat) : Int) C1 = some (fl, Mc') ∧ g_X12_readsAll X = some (fl, Mr') ∧ CM C1 Mc' ∧ RM X Mr' ∧ ((fl = 1 ∧ ∃ c' po', 0 < c' ∧ MS Mc' Mr' c' po') ∨ (fl = 0 ∧ zI Mr' 20 10 = zI Mc' 2 1)) := by
    intro X hX KX
    obtain ⟨Mr, r1, r2, r3, r4, r5, r6, r7⟩ := R_readsAll0 hX KX
    obtain ⟨fl, Mc', Mr', s1, s2, s3, s4, s5⟩ := sim_mread b 30 0 0 0 100000 100000 C1 Mr (by omega) (by omega) (by omega) ⟨T1, r7, p5, r3, by omega⟩ ⟨⟨c3 2 (by omega), r5, by omega⟩, ⟨c3 3 (by omega), c3 4 (by omega), c3 5 (by omega)⟩, fun _ => ⟨r4, rfl⟩, fun q => absurd q (by omega), fun j hj => by rw [c4 j hj, r6 j hj]; omega, fun q hq => absurd hq (by omega), KX.rm r2⟩
    exact ⟨fl, Mc', Mr', s1, by rw [r1]; exact s2, s3, r2.trans s4, s5⟩
  have TRM : ∀ X : MZ, zI X 20 8 = zI M 20 8 → sameH M X 25 → TR n B X := fun X h8 h25 => ⟨by rw [h8, hA.2.1]; exact en, fun k hk' => by rw [(h25 k).1, (hA.2.2 k (by omega)).1]; exact Bk k hk'⟩
  obtain ⟨fl, Mc', Mr0, s1, s2, s3, s4, s5⟩ := both M (TRM M rfl sameH.rfl) K
  have cm := cmC.trans s3
  have hHc : HP Mc' 143 := HP.same (fun i _ => cm.2.2 i) hH
  have FY : ∀ x, x ≠ 2 → sameH Mc' (uI Mc' 2 0 0) x := fun x hx => sameH_uI hx
  have FMY : ∀ x, x ≠ 2 → ¬ (143 ≤ x ∧ x < 143 + 65) → sameH M (uI Mc' 2 0 0) x := fun x h1 h2 => (cm.1 x h1 h2).trans (FY x h1)
  unfold g_X11_market g_X12_market
  rw [hcls fl Mc' s1]
  simp only [bindS]
  rcases s5 with ⟨rfl, c', po', hc', hms⟩ | ⟨rfl, ef⟩
  · rw [if_neg (show ¬ (1 : Int) = 0 by omega)]
    have hRs := mRep hc' hms FY hHc
    have x3 := hms.1.2.2
    obtain ⟨M1, k1, k2, k3⟩ := K_copyFrom b78 b143 (by omega) hRs ⟨by omega, by omega⟩ (HP.same (fun i _ => (FMY 81 (by omega) (by omega) i).2.2) R.2.2.2.2.2.1)
    rw [k1]
    simp only [bindS]
    have F1 : ∀ x, x ≠ 2 → ¬ (78 ≤ x ∧ x < 78 + 65) → ¬ (143 ≤ x ∧ x < 143 + 65) → sameH M M1 x := fun x h1 h2 h3 => (FMY x h1 h3).trans (k3 x h2)
    have K1 : KON M1 := K.mv (fun x hx => F1 x (by omega) (by omega) (by omega))
    obtain ⟨fl2, Mc2, Mr, t1, t2, t3, t4, t5⟩ := both M1 (TRM M1 (F1 20 (by omega) (by omega) (by omega) 8).1 (F1 25 (by omega) (by omega) (by omega))) K1
    rw [s1] at t1
    have e1 : fl2 = 1 := by injection t1 with q; injection q with q1 q2; exact q1.symm
    have e2 : Mc2 = Mc' := by injection t1 with q; injection q with q1 q2; exact q2.symm
    subst e1
    subst e2
    rcases t5 with ⟨_, c2', po2, hc2, hm2⟩ | ⟨q, _⟩
    · have epo : po2 = po' := by
        have a := hms.1.1
        have b' := hm2.1.1
        omega
      subst epo
      obtain ⟨⟨w1, w2, w3⟩, ⟨v1, v2, v3⟩, g0, g1, gp, gq, KR⟩ := hm2
      obtain ⟨u1, u2, u3, u4⟩ := g1 hc2
      have u1' := (hms.2.2.2.1 hc').1
      have u3' := (hms.2.2.2.1 hc').2.2.1
      have eth : zI Mr0 20 24 = zI Mr 20 24 := by rw [← u1', u1]
      have epe : zI Mr0 20 25 = zI Mr 20 25 := by rw [← u3', u3]
      have K8 : KON (uI Mr 20 8 0) := ⟨KR.1, KR.2.1, KR.2.2⟩
      have z8 : ∀ k, k ≠ 8 → zI (uI Mr 20 8 0) 20 k = zI Mr 20 k := fun k hk8 => by rw [zI_uI, if_neg (fun q => hk8 q.2)]
      have z26 : ∀ k, zI (uI Mr 20 8 0) 26 k = zI Mr 26 k := fun k => by rw [zI_uI, if_neg (by omega)]
      have z27 : ∀ k, zI (uI Mr 20 8 0) 27 k = zI Mr 27 k := fun k => by rw [zI_uI, if_neg (by omega)]
      obtain ⟨M2, b1, b2, ⟨b3, b4, b5⟩, b6, b7, b8⟩ := R_begins (Mr := uI Mr 20 8 0) (po := po2) K8 (by rw [z8 26 (by omega)]; exact w2) w3 (fun q hq => by rw [z26, z26]; exact (gq q hq).2.2.1)
      rw [z8 24 (by omega)] at b3
      rw [z8 25 (by omega)] at b4
      refine ⟨po2, M1, M2, by rw [k2.1.2.2.1], ?_, ?_⟩
      · rw [t2]
        simp only [bindS]
        rw [if_neg (show ¬ (1 : Int) = 0 by omega), b1]
        simp only [bindS]
        rw [b5]
      obtain ⟨d1, d2, d3, d4, d5⟩ := b8
      have hcell : ∀ p, p < po2 → ∃ v, zI Mc2 (143 + 2 + 2 + 5 * p) 5 = v ∧ zI Mc2 (143 + 2 + 2 + 5 * p) 6 = zof v ∧ Rzz v (zof v) ∧ zL M2 23 (22 + 23 * p) = v ∧ zL M2 23 (22 + 23 * p + 1) = zof v ∧ zL M2 23 (22 + 23 * p + 6) = 1 ∧ (∀ w, w < 23 → w ≠ 0 → w ≠ 1 → w ≠ 6 → zL M2 23 (22 + 23 * p + w) = 0) := fun p hp => by
        obtain ⟨v, q1, q2, q3⟩ := (gq p hp).2.2.2.1
        obtain ⟨v', y1, y2, y3, y4, y5⟩ := d1 p hp
        rw [z26, z26] at y1
        have := SQ_uniq q2 y1
        subst this
        exact ⟨v, q1, q3, SQ_rz q2, y2, y3, y4, y5⟩
      have hpur : ∀ j, j < 20 → zL M2 23 (2 + j) = zI Mc2 144 j ∧ 0 ≤ zL M2 23 (2 + j) ∧ zL M2 23 (2 + j) ≤ 9999999 := fun j hj => by
        have := gp j hj
        rw [d3 j hj, z27]
        omega
      have FR : ∀ x, x ≠ 20 → x ≠ 22 → x ≠ 23 → x ≠ 26 → x ≠ 27 → sameH M1 M2 x := fun x h1 h2 h3 h4 h5 => ((t4.1 x h1 h4 h5).trans (sameH_uI h1)).trans (b2 x h1 h2 h3)
      have R2 : Rep true M2 78 (fun j => zL M2 23 j) (fun j => zI M2 22 j) [] (zI Mr 20 24) (zI Mr 20 25) po2 := by
        rw [eth, epe] at k2
        refine (k2.same (fun x h1 h2 => FR x (by omega) (by omega) (by omega) (by omega) (by omega))).cgNT ?_ ?_ (fun j hj => ?_) (fun p p5 pq w hw => ?_) (fun p p5 pq j hj => ?_)
        · exact d4.1
        · exact d4.2.1
        · show zL M2 23 (2 + j) = mN Mc2 (2 + j)
          rw [(hpur j hj).1]
          unfold mN
          rw [if_neg (by omega), if_pos (by omega), show 2 + j - 2 = j by omega]
        · show zL M2 23 (22 + 23 * p + w) = mN Mc2 (22 + 23 * p + w)
          obtain ⟨v, q1, q2, q3, q4, q5, q6, q7⟩ := hcell p (by omega)
          rw [mN_p _ _ hw]
          by_cases c0 : w = 0
          · subst c0; rw [if_pos rfl, q1]; exact q4
          · rw [if_neg c0]
            by_cases c1 : w = 1
            · subst c1; rw [if_pos rfl, q2]; exact q5
            · rw [if_neg c1]
              by_cases c6 : w = 6
              · subst c6; rw [if_pos rfl]; exact q6
              · rw [if_neg c6]; exact q7 w hw c0 c1 c6
        · show zI M2 22 (5 * p + j) = mT Mc2 (5 * p + j)
          rw [mT_p _ _ hj, d5 p (by omega) j hj, z26]
          exact ((gq p (by omega)).1 j hj).symm
      have hheld : ∀ p : Nat, p < 5 → ∀ w, w < 23 → 2 ≤ w → w ≠ 6 → zL M2 23 (22 + 23 * p + w) = 0 := fun p p5 w hw w2 w6 => by
        rcases Nat.lt_or_ge p po2 with q | q
        · obtain ⟨v, _, _, _, _, _, _, q7⟩ := hcell p q
          exact q7 w hw (by omega) (by omega) w6
        · exact d2 p q p5 w hw
      refine ⟨fun j => zL M2 23 j, fun j => zI M2 22 j, [], zI Mr 20 24, zI Mr 20 25, po2, R2, ?_, ?_, ?_, fun p p5 pq => ?_, ?_, ?_, b7, ?_⟩
      · exact ⟨⟨b3, b4, b5⟩, fun _ _ => rfl, fun _ _ => rfl, d4.2.2, fun i hi => absurd hi (by simp), by simp⟩
      · refine ⟨Or.inr ⟨u2, u4, by omega⟩, fun p p5 pq => ⟨?_, ?_⟩, fun s hs => absurd hs (by simp)⟩
        · have l2 := (gq p (by omega)).2.1
          have e0 : zI M2 22 (5 * p) = zI Mr 26 (7 * p) := (d5 p (by omega) 0 (by omega)).trans (z26 _)
          have ej : ∀ j, j < 5 → zI M2 22 (5 * p + j) = zI Mr 26 (7 * p + j) := fun j hj => by rw [d5 p (by omega) j hj, z26]
          unfold Told
          simp only []
          rw [e0, ej 1 (by omega), ej 2 (by omega), ej 3 (by omega), ej 4 (by omega)]
          exact l2
        · obtain ⟨v, q1, q2, q3, q4, q5, q6, q7⟩ := hcell p (by omega)
          unfold Rz
          simp only []
          rw [q4, q5]
          exact q3
      · refine ⟨fun j hj => (hpur j hj).2.1, fun p k p5 pq hk2 => ?_, fun t ht5 => ?_, fun s hs => absurd hs (by simp)⟩
        · have e4 : zL M2 23 (22 + 23 * p + (4 + k)) = 0 := hheld p p5 _ (by omega) (by omega) (by omega)
          have e2 : zL M2 23 (22 + 23 * p + (2 + k)) = 0 := hheld p p5 _ (by omega) (by omega) (by omega)
          unfold SolvD
          simp only []
          rw [e4, e2]
          refine ⟨Int.le_refl _, Int.le_refl _, ?_⟩
          show ((0 : Int) : Rat) + 0 ≤ ((0 : Int) : Rat) + ((0 : Int) : Rat)
          rw [Rat.intCast_zero]
          grind
        · have tz : ∀ q, q < 5 → totP (fun j => zL M2 23 j) (fun j => zI M2 22 j) po2 t q = 0 := fun q q5 => by
            have e2 := hheld q q5 2 (by omega) (by omega) (by omega)
            have e3 := hheld q q5 3 (by omega) (by omega) (by omega)
            unfold totP
            simp only []
            rw [e2, e3]
            repeat' split
            all_goals rfl
          unfold tot
          rw [tz 0 (by omega), tz 1 (by omega), tz 2 (by omega), tz 3 (by omega), tz 4 (by omega)]
          simp only []
          have a1 := hpur t (by omega)
          have a2 := hpur (5 + t) (by omega)
          have a3 := hpur (10 + t) (by omega)
          have a4 := hpur (15 + t) (by omega)
          omega
      · have e6 := (hcell p (by omega))
        obtain ⟨v, q1, q2, q3, q4, q5, q6, q7⟩ := e6
        have e7 : zL M2 23 (22 + 23 * p + 7) = 0 := q7 7 (by omega) (by omega) (by omega) (by omega)
        have e8 : zL M2 23 (22 + 23 * p + 8) = 0 := q7 8 (by omega) (by omega) (by omega) (by omega)
        unfold Mrk
        simp only []
        rw [q6, e7, e8, d4.1]
        refine ⟨by omega, by omega, fun i hi => absurd hi (by omega), fun i hi => ?_⟩
        have : i = 0 := by omega
        subst this
        rw [show 7 + 2 * 0 = 7 from rfl, e7]
        exact Int.le_refl _
      · simp only []
        rw [d4.1]
        omega
      · exact HP.same (fun i _ => ((k3 146 (by omega) i).2.2.symm ▸ (FR 146 (by omega) (by omega) (by omega) (by omega) (by omega) i).2.2)) (HP.same (fun i _ => (FY 146 (by omega) i).2.2) hHc)
      · have f2 : sameH (uI Mc2 2 0 0) M2 2 := (k3 2 (by omega)).trans (FR 2 (by omega) (by omega) (by omega) (by omega) (by omega))
        have z0 : zI M2 2 0 = 0 := by rw [(f2 0).1]; exact zI_at _ _ _ _
        have z20 : zI M2 20 8 = 0 := by rw [b6 8 (by omega) (by omega) (by omega)]; exact zI_at _ _ _ _
        refine ⟨by rw [z0]; omega, by rw [z20, z0], fun j hj => ?_⟩
        have g3 : sameH M M2 3 := (F1 3 (by omega) (by omega) (by omega)).trans (FR 3 (by omega) (by omega) (by omega) (by omega) (by omega))
        have g25 : sameH M M2 25 := (F1 25 (by omega) (by omega) (by omega)).trans (FR 25 (by omega) (by omega) (by omega) (by omega) (by omega))
        rw [(g3 j).1, (g25 j).1]
        exact hA.2.2 j hj
    · exact absurd q (by omega)
  · rw [if_pos rfl]
    have KY : KON (uI Mc' 2 0 0) := K.mv (fun x hx => FMY x (by omega) (by omega))
    obtain ⟨fl2, Mc2, Mr, t1, t2, t3, t4, t5⟩ := both (uI Mc' 2 0 0) (TRM _ (FMY 20 (by omega) (by omega) 8).1 (FMY 25 (by omega) (by omega))) KY
    rw [s1] at t1
    have e1 : fl2 = 0 := by injection t1 with q; injection q with q1 q2; exact q1.symm
    have e2 : Mc2 = Mc' := by injection t1 with q; injection q with q1 q2; exact q2.symm
    subst e1
    subst e2
    rcases t5 with ⟨q, _⟩ | ⟨_, ef2⟩
    · exact absurd q (by omega)
    · have w1 : zI (uI Mc2 2 0 0) 2 1 = zI Mc2 2 1 := by rw [zI_uI, if_neg (by omega)]
      have w2 : zI (uI Mr 20 8 0) 20 10 = zI Mr 20 10 := by rw [zI_uI, if_neg (by omega)]
      refine ⟨_, uI Mc2 2 0 0, uI Mr 20 8 0, rfl, ?_, ?_⟩
      · rw [t2]
        simp only [bindS]
        rw [if_pos trivial, w1, w2, ef2]
      have FR : ∀ x, x ≠ 20 → x ≠ 26 → x ≠ 27 → sameH (uI Mc2 2 0 0) (uI Mr 20 8 0) x := fun x h1 h2 h3 => (t4.1 x h1 h2 h3).trans (sameH_uI h1)
      have FX : ∀ x, x ≠ 2 → ¬ (143 ≤ x ∧ x < 143 + 65) → x ≠ 20 → x ≠ 26 → x ≠ 27 → sameH M (uI Mr 20 8 0) x := fun x h1 h2 h3 h4 h5 => (FMY x h1 h2).trans (FR x h3 h4 h5)
      have i20 : ∀ k, k < 4 → zI (uI Mr 20 8 0) 20 k = zI M 20 k := fun k hk4 => by
        rw [zI_uI, if_neg (by omega), t4.2.1 k (by omega) (by omega) (by omega) (by omega) (by omega) (by omega)]
        exact (FMY 20 (by omega) (by omega) k).1
      have z0 : zI (uI Mr 20 8 0) 2 0 = 0 := by rw [(FR 2 (by omega) (by omega) (by omega) 0).1]; exact zI_at _ _ _ _
      refine ⟨N, T, L, th, pe, po, R.same (fun x h1 h2 => FX x (by omega) (by omega) (by omega) (by omega) (by omega)), ?_, W, hM, hk, ht, HP.same (fun i _ => ((FY 146 (by omega)).trans (FR 146 (by omega) (by omega) (by omega)) i).2.2) hHc, ?_, ?_⟩
      · obtain ⟨⟨a0, a1, a2⟩, hT, hN, hn, hL, h12⟩ := RR
        have s22 := FX 22 (by omega) (by omega) (by omega) (by omega) (by omega)
        have s23 := FX 23 (by omega) (by omega) (by omega) (by omega) (by omega)
        exact ⟨⟨by rw [i20 1 (by omega)]; exact a0, by rw [i20 2 (by omega)]; exact a1, by rw [i20 3 (by omega)]; exact a2⟩, fun j hj => by rw [(s22 j).1]; exact hT j hj, fun j hj => by rw [(s23 j).2.1]; exact hN j hj, by rw [(s23 137).2.1]; exact hn, fun i hi w hw => by rw [(s23 _).2.1]; exact hL i hi w hw, h12⟩
      · have KR := KY.rm t4
        exact ⟨KR.1, KR.2.1, KR.2.2⟩
      · refine ⟨by rw [z0]; omega, by rw [z0]; exact zI_at _ _ _ _, fun j hj => ?_⟩
        rw [(FX 3 (by omega) (by omega) (by omega) (by omega) (by omega) j).1, (FX 25 (by omega) (by omega) (by omega) (by omega) (by omega) j).1]
        exact hA.2.2 j hj
theorem ok_market : SO INV f_X11_market f_X12_market := SO_of (IV := IV) (fun _ => l_X11_market rfl) (fun _ => l_X12_market rfl) (fun _ h => q_market h)
