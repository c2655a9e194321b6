/-! a bundle is done: brackets that end, turns, all of it -/
section TU
variable {Mc Mr : MZ} {N T : Nat → Int} {L : List (Nat → Int)} {th pe po : Int} {D : Nat → Nat → Int} {m per sz at' dp dn : Nat} {st : Nat → Nat}
theorem CR.two (h : CR Mc Mr N T L th pe po D m per) {Mc' Mr' : MZ} (a1 : ∀ x, (78 ≤ x ∧ x < 78 + 65) ∨ x = 13 → sameH Mc Mc' x) (a2 : zI Mc' 9 5 = zI Mc 9 5) (b1 : ∀ x, x = 21 ∨ x = 22 ∨ x = 23 ∨ x = 33 → sameH Mr Mr' x) (b2 : ∀ k, k ≠ 44 → k ≠ 50 → zI Mr' 20 k = zI Mr 20 k) (b3 : ∀ k, zL Mr' 20 k = zL Mr 20 k) : CR Mc' Mr' N T L th pe po D m per := by
  obtain ⟨R, RR, K, W, hM, hk, ht, hD, ⟨p1, p2, p3⟩, ⟨l1, l2, l3⟩, l4, l5⟩ := h
  exact ⟨R.same (fun x h1 h2 => a1 x (by omega)), RR.f20 (fun x hx => b1 x (by omega)) (fun k hk => b2 k (by omega) (by omega)), K.f20 (fun x hx => b1 x (by omega)) (fun k _ => b3 k), W, hM, hk, ht, hD, ⟨by rw [a2]; exact p1, by rw [b2 43 (by omega) (by omega)]; exact p2, p3⟩, ⟨by rw [b2 46 (by omega) (by omega)]; exact l1, l2, fun q hq => by rw [(a1 13 (by omega) q).1]; exact l3 q hq⟩, l4, l5⟩
theorem R_comesO {M : MZ} {d o : Nat} {r : Int} (hd : d < 4) (ho : o < 40) (h50 : zI M 20 50 = ((d + 1 : Nat) : Int)) (h35 : zI M 35 d = o) (h36 : zI M 36 d = r) (hr : 1 ≤ r ∧ r ≤ 20) : g_X12_comesOut M = if r ≤ 1 then (if zI M 28 o = 5 then ((g_X12_givesBack o (zL M 37 d) (uI (uI M 36 d (r - 1)) 20 50 (d : Int))).bind fun q76 => (if q76.1 = 0 then some (-1, q76.2) else some (zI q76.2 32 o, q76.2))) else some (zI M 32 o, uI (uI M 36 d (r - 1)) 20 50 (d : Int))) else some (((o + 1 : Nat) : Int), uI M 36 d (r - 1)) := by
  have hb : (0 : Int) ≤ (d : Int) ∧ (d : Int) < ((4 : Nat) : Int) := by omega
  have hbo : (0 : Int) ≤ (o : Int) ∧ (o : Int) < ((40 : Nat) : Int) := by omega
  have e1 : zI (uI M 36 d (r - 1)) 20 50 = ((d + 1 : Nat) : Int) := by rw [zI_uI, if_neg (by omega)]; exact h50
  have e2 : zI (uI M 36 d (r - 1)) 36 d = r - 1 := zI_at _ _ _ _
  have e3 : zI (uI (uI M 36 d (r - 1)) 20 50 (d : Int)) 20 50 = (d : Int) := zI_at _ _ _ _
  have e4 : zI (uI (uI M 36 d (r - 1)) 20 50 (d : Int)) 28 o = zI M 28 o := by rw [zI_uI, if_neg (by omega), zI_uI, if_neg (by omega)]
  have e5 : zL (uI (uI M 36 d (r - 1)) 20 50 (d : Int)) 37 d = zL M 37 d := rfl
  have e6 : zI (uI (uI M 36 d (r - 1)) 20 50 (d : Int)) 32 o = zI M 32 o := by rw [zI_uI, if_neg (by omega), zI_uI, if_neg (by omega)]
  have e82 : ∀ X, g_X12_comesOut_82 o X = some (zI X 32 o, X) := fun X => by
    unfold g_X12_comesOut_82 g_X12_comesOut_92
    rw [if_pos hbo, Int.toNat_natCast]
  unfold g_X12_comesOut g_X12_comesOut_12 g_X12_comesOut_92
  rw [h50, w32_id (x := ((d + 1 : Nat) : Int) - 1) (by omega) (by omega), show ((d + 1 : Nat) : Int) - 1 = (d : Int) by omega, if_pos hb, if_pos hb, if_pos hb, Int.toNat_natCast, h35, h36, w32_id (x := r - 1) (by omega) (by omega), e1, w32_id (x := ((d + 1 : Nat) : Int) - 1) (by omega) (by omega), show ((d + 1 : Nat) : Int) - 1 = (d : Int) by omega, if_pos hb, Int.toNat_natCast, e2, if_pos hbo, e3, if_pos hb, Int.toNat_natCast, Int.toNat_natCast, e4, e5, e82, e6, w32_id (x := (o : Int) + 1) (by omega) (by omega), show (o : Int) + 1 = ((o + 1 : Nat) : Int) by omega]
  simp only [e82]
  by_cases c : r ≤ 1
  · rw [if_pos (by omega), if_pos c]
  · rw [if_neg (by omega), if_neg c]
theorem sim_shut {d : Nat} (H : RUN Mc Mr N T L th pe po D m per sz at' (d + 1) dn st) (hat : (at' : Int) = zI Mr 32 (st d)) {mu : Nat} (hmu : 6 * (100 - dn) + (d + 1) + 1 ≤ mu) : TOK Mc Mr T th pe po per sz mu ((g_X5_closeBracket (38 + st d) Mc).bind fun q59 => some ((), q59.2)) (fun k7 => (g_X12_comesOut Mr).bind fun q54 => k7 q54.1 q54.2) ∨ TNO Mc Mr ((g_X5_closeBracket (38 + st d) Mc).bind fun q59 => some ((), q59.2)) (fun k7 => (g_X12_comesOut Mr).bind fun q54 => k7 q54.1 q54.2) := by
  obtain ⟨hR, hP, ⟨z0, z1, z6, z7⟩, ⟨y44, y50⟩, hb, hg, hB, hCh, hE, hDi, hLk⟩ := H
  have h40 := hP.1.2.2
  obtain ⟨hos, hbr⟩ := hB d (by omega)
  have ho : st d < 40 := by omega
  have hst := (hP.2.2.1 (st d) hos).1
  have haf := hP.af hos
  have hd4 : d < 4 := by omega
  obtain ⟨b10, b35, bk⟩ := hbr
  have hk := hst.1.1
  -- below it
  have below : ∀ j, j + 1 = d → st j < at' ∧ (at' : Int) ≤ zI Mr 32 (st j) := by
    intro j hj
    have h1 := hCh j (by omega)
    rw [hj] at h1
    have h2 := (hP.af (hB j (by omega)).1).2.2 (st d) h1.1 h1.2
    have h3 := hE d (by omega)
    exact ⟨by omega, by rw [hat]; exact h2⟩
  unfold g_X5_closeBracket g_X5_closeBracket_7 g_X5_closeBracket_85
  rw [z7, w32_id (x := ((d + 1 : Nat) : Int) - 1) (by omega) (by omega), show ((d + 1 : Nat) : Int) - 1 = (d : Int) by omega, if_neg (show ¬ (d : Int) < 0 by omega), if_pos (show (d : Int) < 4 by omega), if_pos (kdt (st d) ho), hk, if_pos (show (0 : Int) ≤ (d : Int) ∧ (d : Int) < ((4 : Nat) : Int) by omega), if_pos (show (0 : Int) ≤ (d : Int) ∧ (d : Int) < ((4 : Nat) : Int) by omega), if_pos (show (0 : Int) ≤ (d : Int) ∧ (d : Int) < ((4 : Nat) : Int) by omega), if_pos (show (0 : Int) ≤ (d : Int) ∧ (d : Int) < ((4 : Nat) : Int) by omega), if_pos (show (0 : Int) ≤ (d : Int) ∧ (d : Int) < ((4 : Nat) : Int) by omega), Int.toNat_natCast]
  rcases bk with ⟨k6, b11, b36⟩ | ⟨k5, b36, b12, b37, p, k, hp, hk2, ep, ek, hbit, hD1, hD2⟩
  · -- times
    rw [R_comesO hd4 ho y50 b35 rfl b36, if_neg (show ¬ zI Mr 28 (st d) = 5 by omega), if_neg (show ¬ zI Mr 28 (st d) = 5 by omega), b11]
    obtain ⟨r, er⟩ : ∃ r, zI Mr 36 d = r := ⟨_, rfl⟩
    rw [er] at b36 ⊢
    rw [w32_id (x := r - 1) (by omega) (by omega)]
    have x11 : zI (uI Mc 11 d (r - 1)) 11 d = r - 1 := zI_at _ _ _ _
    have x10 : zI (uI Mc 11 d (r - 1)) 10 d = (st d : Int) := by rw [zI_uI, if_neg (by omega)]; exact b10
    rw [x11, x10, w32_id (x := (st d : Int) + 1) (by omega) (by omega), show (st d : Int) + 1 = ((st d + 1 : Nat) : Int) by omega]
    by_cases c : r ≤ 1
    · rw [if_pos (show r - 1 ≤ 0 by omega), if_pos c]
      simp only [bindS]
      generalize eMc2 : uI (uI Mc 11 d (r - 1)) 9 7 (d : Int) = Mc2
      generalize eMr2 : uI (uI Mr 36 d (r - 1)) 20 50 (d : Int) = Mr2
      have fc : ∀ x, x ≠ 9 → x ≠ 11 → sameH Mc Mc2 x := fun x h1 h2 => by rw [← eMc2]; exact (sameH_uI h2).trans (sameH_uI h1)
      have fr : ∀ x, x ≠ 20 → x ≠ 36 → sameH Mr Mr2 x := fun x h1 h2 => by rw [← eMr2]; exact (sameH_uI h2).trans (sameH_uI h1)
      have z9 : ∀ j, j ≠ 7 → zI Mc2 9 j = zI Mc 9 j := fun j hj => by rw [← eMc2, zI_uI, if_neg (by omega), zI_uI, if_neg (by omega)]
      have z20 : ∀ j, j ≠ 50 → zI Mr2 20 j = zI Mr 20 j := fun j hj => by rw [← eMr2, zI_uI, if_neg (by omega), zI_uI, if_neg (by omega)]
      have zl20 : ∀ j, zL Mr2 20 j = zL Mr 20 j := fun j => by rw [← eMr2]; rfl
      have F2 : FCT Mc Mc2 := fun x h1 h2 h3 => fc x (by omega) (by omega)
      have G2 : FRT Mr Mr2 := ⟨fun x h1 _ _ h4 => fr x h1 (by omega), fun k _ _ _ _ h5 => z20 k h5, fun k _ => zl20 k, fun k _ => (fr 24 (by omega) (by omega) k).2.1⟩
      refine Or.inl ⟨Mc2, Mr2, N, L, D, m, at', d, dn, st, 1, rfl, fun k7 => by rw [hat], F2, G2, ⟨hR.two (fun x hx => fc x (by omega) (by omega)) (z9 5 (by omega)) (fun x hx => fr x (by omega) (by omega)) (fun k _ h5 => z20 k h5) zl20, hP.t F2 G2, ⟨by rw [z9 0 (by omega)]; exact z0, by rw [z9 1 (by omega)]; exact z1, by rw [z9 6 (by omega)]; exact z6, by rw [← eMc2, zI_at]⟩, ⟨by rw [z20 44 (by omega)]; exact y44, by rw [← eMr2, zI_at]⟩, by omega, by rw [zl20, show zL Mc2 9 8 = zL Mc 9 8 by rw [← eMc2]; rfl]; exact hg, fun j hj => ⟨(hB j (by omega)).1, (hB j (by omega)).2.mv (fc 10 (by omega) (by omega) j).1 ?_ (fc 12 (by omega) (by omega) j).1 (fr 35 (by omega) (by omega) j).1 ?_ (fr 37 (by omega) (by omega) j).2.1 (fr 28 (by omega) (by omega) _).1 (fun x => (fr 30 (by omega) (by omega) x).1) (fun p k _ _ _ _ hb => ⟨hb, rfl⟩)⟩, fun j hj => ?_, fun j hj => ?_, fun j j' h1 h2 h3 h4 => ?_, fun q hq hb' => ?_⟩, ⟨by omega, fun _ _ _ => rfl⟩, by omega⟩
      · rw [← eMc2, zI_uI, if_neg (by omega), zI_uI, if_neg (by omega)]
      · rw [← eMr2, zI_uI, if_neg (by omega), zI_uI, if_neg (by omega)]
      · rw [(fr 32 (by omega) (by omega) _).1]; exact hCh j (by omega)
      · rw [(fr 32 (by omega) (by omega) _).1]; exact below j hj
      · rw [(fr 30 (by omega) (by omega) _).1, (fr 30 (by omega) (by omega) _).1]
        rw [(fr 28 (by omega) (by omega) _).1] at h3 h4
        exact hDi j j' h1 (by omega) h3 h4
      · obtain ⟨j, x1, x2, x3⟩ := hLk q hq hb'
        have ej : j ≠ d := fun z => by rw [z] at x2; omega
        exact ⟨j, by omega, by rw [(fr 28 (by omega) (by omega) _).1]; exact x2, by rw [(fr 30 (by omega) (by omega) _).1]; exact x3⟩
    · rw [if_neg (show ¬ r - 1 ≤ 0 by omega), if_neg c]
      simp only [bindS]
      generalize eMc2 : uI (uI Mc 11 d (r - 1)) 9 6 ((st d + 1 : Nat) : Int) = Mc2
      generalize eMr2 : uI Mr 36 d (r - 1) = Mr2
      have fc : ∀ x, x ≠ 9 → x ≠ 11 → sameH Mc Mc2 x := fun x h1 h2 => by rw [← eMc2]; exact (sameH_uI h2).trans (sameH_uI h1)
      have fr : ∀ x, x ≠ 36 → sameH Mr Mr2 x := fun x h2 => by rw [← eMr2]; exact sameH_uI h2
      have z9 : ∀ j, j ≠ 6 → zI Mc2 9 j = zI Mc 9 j := fun j hj => by rw [← eMc2, zI_uI, if_neg (by omega), zI_uI, if_neg (by omega)]
      have F2 : FCT Mc Mc2 := fun x h1 h2 h3 => fc x (by omega) (by omega)
      have G2 : FRT Mr Mr2 := ⟨fun x h1 _ _ h4 => fr x (by omega), fun k _ _ _ _ h5 => (fr 20 (by omega) k).1, fun k _ => (fr 20 (by omega) k).2.1, fun k _ => (fr 24 (by omega) k).2.1⟩
      have h52 := haf.2.1 (by omega)
      refine Or.inl ⟨Mc2, Mr2, N, L, D, m, st d + 1, d + 1, dn, st, 0, rfl, fun k7 => rfl, F2, G2, ⟨hR.two (fun x hx => fc x (by omega) (by omega)) (z9 5 (by omega)) (fun x hx => fr x (by omega)) (fun k _ h5 => (fr 20 (by omega) k).1) (fun k => (fr 20 (by omega) k).2.1), hP.t F2 G2, ⟨by rw [z9 0 (by omega)]; exact z0, by rw [z9 1 (by omega)]; exact z1, by rw [← eMc2, zI_at], by rw [z9 7 (by omega)]; exact z7⟩, ⟨by rw [(fr 20 (by omega) 44).1]; exact y44, by rw [(fr 20 (by omega) 50).1]; exact y50⟩, by omega, by rw [(fr 20 (by omega) 45).2.1, show zL Mc2 9 8 = zL Mc 9 8 by rw [← eMc2]; rfl]; exact hg, fun j hj => ?_, fun j hj => ?_, fun j hj => ?_, fun j j' h1 h2 h3 h4 => ?_, fun q hq hb' => ?_⟩, ⟨by omega, fun j hj q => ?_⟩, by omega⟩
      · by_cases ej : j = d
        · rw [ej]
          have x36 : zI Mr2 36 d = r - 1 := by rw [← eMr2, zI_at]
          refine ⟨hos, by rw [(fc 10 (by omega) (by omega) d).1]; exact b10, by rw [(fr 35 (by omega) d).1]; exact b35, Or.inl ⟨by rw [(fr 28 (by omega) _).1]; exact k6, ?_, by rw [x36]; omega⟩⟩
          rw [x36, ← eMc2, zI_uI, if_neg (by omega), zI_at]
        · refine ⟨(hB j hj).1, (hB j hj).2.mv (fc 10 (by omega) (by omega) j).1 ?_ (fc 12 (by omega) (by omega) j).1 (fr 35 (by omega) j).1 ?_ (fr 37 (by omega) j).2.1 (fr 28 (by omega) _).1 (fun x => (fr 30 (by omega) x).1) (fun p k _ _ _ _ hb => ⟨hb, rfl⟩)⟩
          · rw [← eMc2, zI_uI, if_neg (by omega), zI_uI, if_neg (by omega)]
          · rw [← eMr2, zI_uI, if_neg (by omega)]
      · rw [(fr 32 (by omega) _).1]; exact hCh j hj
      · rw [(fr 32 (by omega) _).1]
        have ej : j = d := by omega
        rw [ej]
        exact ⟨by omega, by omega⟩
      · rw [(fr 30 (by omega) _).1, (fr 30 (by omega) _).1]
        rw [(fr 28 (by omega) _).1] at h3 h4
        exact hDi j j' h1 h2 h3 h4
      · obtain ⟨j, x1, x2, x3⟩ := hLk q hq hb'
        exact ⟨j, x1, by rw [(fr 28 (by omega) _).1]; exact x2, by rw [(fr 30 (by omega) _).1]; exact x3⟩
      · rw [(fr 32 (by omega) _).1] at q
        have ej : j = d := by omega
        rw [ej] at q
        omega
  · -- lend
    rw [R_comesO hd4 ho y50 b35 b36 (by omega), if_pos (show (1 : Int) ≤ 1 by omega), if_pos k5, if_pos k5, b12]
    generalize eMr2 : uI (uI Mr 36 d (1 - 1)) 20 50 (d : Int) = Mr2
    have fr : ∀ x, x ≠ 20 → x ≠ 36 → sameH Mr Mr2 x := fun x h1 h2 => by rw [← eMr2]; exact (sameH_uI h2).trans (sameH_uI h1)
    have z20 : ∀ j, j ≠ 50 → zI Mr2 20 j = zI Mr 20 j := fun j hj => by rw [← eMr2, zI_uI, if_neg (by omega), zI_uI, if_neg (by omega)]
    have zl20 : ∀ j, zL Mr2 20 j = zL Mr 20 j := fun j => by rw [← eMr2]; rfl
    have q50 : zI Mr2 20 50 = (d : Int) := by rw [← eMr2, zI_at]
    have q36 : ∀ j, j ≠ d → zI Mr2 36 j = zI Mr 36 j := fun j hj => by rw [← eMr2, zI_uI, if_neg (by omega), zI_uI, if_neg (by omega)]
    have G2 : FRT Mr Mr2 := ⟨fun x h1 _ _ h4 => fr x h1 (by omega), fun k _ _ _ _ h5 => z20 k h5, fun k _ => zl20 k, fun k _ => (fr 24 (by omega) (by omega) k).2.1⟩
    have hR2 : CR Mc Mr2 N T L th pe po D m per := hR.two (fun _ _ => sameH.rfl) rfl (fun x hx => fr x (by omega) (by omega)) (fun k _ h5 => z20 k h5) zl20
    have hP2 : SP Mc Mr2 sz 0 := hP.t (fun _ _ _ _ => sameH.rfl) G2
    have hst2 := (hP2.2.2.1 (st d) hos).1
    have e28 : ∀ x, zI Mr2 28 x = zI Mr 28 x := fun x => (fr 28 (by omega) (by omega) x).1
    have e29 : ∀ x, zI Mr2 29 x = zI Mr 29 x := fun x => (fr 29 (by omega) (by omega) x).1
    have e30 : ∀ x, zI Mr2 30 x = zI Mr 30 x := fun x => (fr 30 (by omega) (by omega) x).1
    have hps := hst2.2.2.1 (by rw [e28]; omega)
    rcases a_back hR2 ho hps.1 hst2.2.1.1 hp hk2 (by rw [e30]; exact ep) (by rw [e30]; exact ek) hbit b37 hD1 hD2 with ⟨Mc3, Mr3, N', L', a1, a2, a3, a4, a5, a6, a7⟩ | ⟨Mc3, Mr3, a1, a2, a3, a4, a5, a6, a7, a8, a9, a10⟩
    · rw [a1, a2]
      simp only [bindS]
      have e32 : ∀ x, zI Mr3 32 x = zI Mr 32 x := fun x => by rw [(a5 32 (by omega) (by omega) x).1, (fr 32 (by omega) (by omega) x).1]
      have e28' : ∀ x, zI Mr3 28 x = zI Mr 28 x := fun x => by rw [(a5 28 (by omega) (by omega) x).1, e28]
      have e30' : ∀ x, zI Mr3 30 x = zI Mr 30 x := fun x => by rw [(a5 30 (by omega) (by omega) x).1, e30]
      rw [if_neg (show ¬ (1 : Int) = 0 by omega)]
      simp only [bindS]
      rw [e32, ← hat]
      have F2 : FCT Mc (uI Mc3 9 7 (d : Int)) := fun x h1 h2 h3 => (a4 x (by omega) h3).trans (sameH_uI (by omega))
      have G3 : FRT Mr Mr3 := G2.trans ⟨fun x h1 h2 _ _ => a5 x h1 h2, fun k _ _ _ h46 _ => a6 k h46, fun k _ => a7 k, fun k _ => (a5 24 (by omega) (by omega) k).2.1⟩
      have mh := mk_clr_has m hR.2.2.2.2.2.2.2.2.2.1.2.1 p hp
      refine Or.inl ⟨uI Mc3 9 7 (d : Int), Mr3, N', L', _, _, at', d, dn, st, 1, rfl, fun k7 => rfl, F2, G3, ⟨a3.two (fun x hx => sameH_uI (by omega)) (by rw [zI_uI, if_neg (by omega)]) (fun _ _ => sameH.rfl) (fun _ _ _ => rfl) (fun _ => rfl), hP.t F2 G3, ⟨?_, ?_, ?_, zI_at _ _ _ _⟩, ⟨?_, ?_⟩, by omega, ?_, fun j hj => ⟨(hB j (by omega)).1, (hB j (by omega)).2.mv ?_ ?_ ?_ ?_ ?_ ?_ (e28' _) e30' (fun q k' hq5 hk' h5 hqe hbb => ?_)⟩, fun j hj => ?_, fun j hj => ?_, fun j j' h1 h2 h3 h4 => ?_, fun q hq hb' => ?_⟩, ⟨by omega, fun _ _ _ => rfl⟩, by omega⟩
      · rw [zI_uI, if_neg (by omega), (a4 9 (by omega) (by omega) 0).1]; exact z0
      · rw [zI_uI, if_neg (by omega), (a4 9 (by omega) (by omega) 1).1]; exact z1
      · rw [zI_uI, if_neg (by omega), (a4 9 (by omega) (by omega) 6).1]; exact z6
      · rw [a6 44 (by omega), z20 44 (by omega)]; exact y44
      · rw [a6 50 (by omega)]; exact q50
      · rw [a7, zl20, zL_uI, (a4 9 (by omega) (by omega) 8).2.1]; exact hg
      · rw [zI_uI, if_neg (by omega), (a4 10 (by omega) (by omega) j).1]
      · rw [zI_uI, if_neg (by omega), (a4 11 (by omega) (by omega) j).1]
      · rw [zI_uI, if_neg (by omega), (a4 12 (by omega) (by omega) j).1]
      · rw [(a5 35 (by omega) (by omega) j).1, (fr 35 (by omega) (by omega) j).1]
      · rw [(a5 36 (by omega) (by omega) j).1, q36 j (by omega)]
      · rw [(a5 37 (by omega) (by omega) j).2.1, (fr 37 (by omega) (by omega) j).2.1]
      · have hne : q ≠ p := fun z => by
          have := hDi j d hj (by omega) h5 k5
          rw [hqe, ep, z] at this
          exact this rfl
        refine ⟨(mh q hq5).2 ⟨hbb, hne⟩, ?_⟩
        show (if q = p ∧ k' = k then 0 else D q k') = D q k'
        rw [if_neg (fun z => hne z.1)]
      · rw [e32]; exact hCh j (by omega)
      · rw [e32]; exact below j hj
      · rw [e30', e30']
        rw [e28'] at h3 h4
        exact hDi j j' h1 (by omega) h3 h4
      · obtain ⟨y1, y2⟩ := (mh q hq).1 hb'
        obtain ⟨j, x1, x2, x3⟩ := hLk q hq y1
        have ej : j ≠ d := fun z => by
          rw [z, ep] at x3
          exact y2 (by omega)
        exact ⟨j, by omega, by rw [e28']; exact x2, by rw [e30']; exact x3⟩
    · rw [a1, a2]
      simp only [bindS]
      rw [if_pos trivial]
      simp only [bindS]
      have F2 : FCT Mc (uI Mc3 9 7 (d : Int)) := fun x h1 h2 h3 => (a7 x (by omega) (by omega) h3).trans (sameH_uI (by omega))
      have G3 : FRT Mr Mr3 := G2.trans ⟨fun x h1 h2 _ _ => a8 x h1, fun k h10 _ _ h46 _ => a9 k h10 h46, fun k _ => a10 k, fun k _ => (a8 24 (by omega) k).2.1⟩
      exact Or.inr ⟨uI Mc3 9 7 (d : Int), Mr3, fz 7 (zI Mr2 29 (st d)), rfl, fun k7 => rfl, F2, G3, by rw [zI_uI, if_neg (by omega)]; exact a3, a4, fz_pos (by omega) hst2.2.1.2, HP.same (fun _ _ => rfl) a5, a6⟩
theorem sim_turn (H : RUN Mc Mr N T L th pe po D m per sz at' dp dn st) (hgo : 0 < dp ∨ at' < sz) {e : Nat} (hev : EV Mr at' dp st e) {mu : Nat} (hmu : 6 * (100 - dn) + dp + e ≤ mu) : TOK Mc Mr T th pe po per sz mu (g_X5_turn Mc) (fun k7 => g_X12_doesAll_26 k7 at' Mr) ∨ TNO Mc Mr (g_X5_turn Mc) (fun k7 => g_X12_doesAll_26 k7 at' Mr) := by
  have H' := H
  obtain ⟨hR, hP, ⟨z0, z1, z6, z7⟩, ⟨y44, y50⟩, hb, hg, hB, hCh, hE, hDi, hLk⟩ := H'
  have h40 := hP.1.2.2
  unfold g_X5_turn g_X5_turn_40 g_X12_doesAll_26 g_X12_doesAll_65
  rw [z7]
  simp only [y50]
  by_cases c0 : dp = 0
  · rw [if_pos (show (dp : Int) ≤ 0 by omega)]
    simp only [if_pos (show (dp : Int) ≤ 0 by omega)]
    unfold g_X5_turn_41
    rw [if_pos (show (0 : Nat) = 0 from rfl)]
    exact sim_begin H (by omega) (fun j hj => by omega) (by omega)
  obtain ⟨d, rfl⟩ : ∃ d, dp = d + 1 := ⟨dp - 1, by omega⟩
  obtain ⟨hos, hbr⟩ := hB d (by omega)
  have hEd := hE d rfl
  have k9 : zI Mc (38 + st d) 9 = zI Mr 32 (st d) := (hP.2.2.1 (st d) hos).2
  have hidx : (0 : Int) ≤ (d : Int) ∧ (d : Int) < ((4 : Nat) : Int) := by omega
  have hido : (0 : Int) ≤ (st d : Int) ∧ (st d : Int) < ((40 : Nat) : Int) := by omega
  rw [if_neg (show ¬ ((d + 1 : Nat) : Int) ≤ 0 by omega), if_neg (show ¬ (4 : Int) < ((d + 1 : Nat) : Int) by omega), w32_id (x := ((d + 1 : Nat) : Int) - 1) (by omega) (by omega), show ((d + 1 : Nat) : Int) - 1 = (d : Int) by omega, if_pos hidx, Int.toNat_natCast, hbr.1, K_stepAt hos h40 hP.1.1]
  simp only [bindS, if_neg (show ¬ ((d + 1 : Nat) : Int) ≤ 0 by omega), hbr.2.1, Int.toNat_natCast, if_pos hidx, if_pos hido]
  unfold g_X5_turn_41
  rw [if_neg (show ¬ 38 + st d = 0 by omega), if_pos (kdt (st d) (by omega)), z6, k9]
  by_cases c : (at' : Int) = zI Mr 32 (st d)
  · rw [if_neg (by omega)]
    simp only [if_pos c]
    have he := hev.2 d rfl c
    exact sim_shut H c (by omega)
  · rw [if_pos (by omega)]
    simp only [if_neg c]
    have haf := (hP.af hos).1.2
    exact sim_begin H (by omega) (fun j hj => by
      have ej : j = d := by omega
      rw [ej]
      omega) (by omega)
end TU
