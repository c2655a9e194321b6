/-! the reference's in and out, whatever is lent elsewhere -/
section IO
variable {M : MZ} {D : Nat → Nat → Int} {N T : Nat → Int} {L : List (Nat → Int)} {th pe po : Int}
theorem FrS.of23 {M M' : MZ} (h : Fr23 M M') : FrS M M' := ⟨fun x _ h2 => h x h2, fun k _ => (h 20 (by omega) k).1, fun k _ => (h 20 (by omega) k).2.1⟩
theorem swap_mk (W : WF N T L th pe po) (h12 : L.length ≤ 12) {p : Nat} (m : Mrk N p) {side e o amount : Int} (hb : Pbg p po side e o) (ha : 0 < amount ∧ amount ≤ 10000000000) : toP p (swap (mkN N p) T L p side amount e o) = toP p (swap N T L p side amount e o) := by
  rw [swap_pt W h12 hb ha, swap_pt (W.mk m) h12 hb ha]
  have e0 : xr (mkN N p) p = xr N p := mkN_at m (by omega)
  have e1 : xz (mkN N p) p = xz N p := mkN_at m (by omega)
  have e2 : ae0 (mkN N p) p side e = ae0 N p side e := by unfold ae0; rw [e1]
  rw [e0, e1, e2]
theorem uc_eq {p k per t : Nat} (et : T (5 * p + k) = t) : uc T p k per = 2 + (5 * per + t) := by unfold uc; rw [et, Int.toNat_natCast]
theorem R_in (R : RepR M N T L th pe po) (K : KON M) (W : WF N T L th pe po) (hk : ∀ p : Nat, p < 5 → (p : Int) < po → Mrk N p) (hM : MnyD D N T L po) (hN0 : N 0 ≤ 9999999) {p per : Nat} (hp : p < 5) (hq : (p : Int) < po) (hper : (per : Int) < pe) {side e : Int} (hs : side = 0 ∨ side = 1) (he : 0 ≤ e ∧ e ≤ 40) (amount : Int) :
    (¬ (1 ≤ amount ∧ amount ≤ N (uc T p (xk side) per)) → g_X12_in per p side amount e M = some (-1, M)) ∧
    ((1 ≤ amount ∧ amount ≤ N (uc T p (xk side) per)) → ∃ M', g_X12_in per p side amount e M = some (w32 (swap (mkN N p) T L p side amount e 0).2.2.2.2.1, M') ∧ RepR M' (trN (swap (mkN N p) T L p side amount e 0).1 T p (xk side) per (swap (mkN N p) T L p side amount e 0).2.2.2.1 (swap (mkN N p) T L p side amount e 0).2.2.2.2.1) T (swap (mkN N p) T L p side amount e 0).2.1 th pe po ∧ KON M' ∧ FrS M M' ∧ zL M' 20 31 = (swap (mkN N p) T L p side amount e 0).2.2.2.2.1) := by
  obtain ⟨hxk, hk2⟩ := xk_r hs
  have hpe := W.1.r
  have ht := W.t2 hp hq
  have hper4 : per < 4 := by omega
  obtain ⟨t, et⟩ := zR_nat (ht.k hk2).1
  have t5 : t < 5 := by have := (ht.k hk2).2; omega
  have eu := uc_eq (per := per) et
  have e1 : g_X12_thingOf p side M = some ((t : Int), M) := by
    rw [R_thingOf hp (by omega) (by omega), R.2.1 _ (by omega)]
    have : T (5 * p + side.toNat) = t := et
    rw [this]
  have e2 : g_X12_inPurse per t M = some (N (uc T p (xk side) per), M) := by
    rw [R_inPurse hper4 t5, R.2.2.1 _ (by omega), eu]
  have hrz := (W.2.1 p hp hq).2
  have hu := hM.hU (5 * per + t) (by omega)
  rw [← eu] at hu
  have hpool : 0 ≤ (p : Int) ∧ (p : Int) < zI M 20 3 := by rw [R.1.2.2]; omega
  have hpers : 0 ≤ (per : Int) ∧ (per : Int) < zI M 20 2 := by rw [R.1.2.1]; omega
  unfold g_X12_in g_X12_in_57
  rw [R_isPerson]
  simp only [bindS, bI_0]
  rw [if_neg (fun q => q hpers), R_isPool]
  simp only [bindS, bI_0]
  rw [if_neg (fun q => q hpool), R_isSide]
  simp only [bindS, bI_0]
  rw [if_neg (fun q => q hs), R_isIn]
  simp only [bindS, bI_0]
  rw [if_neg (fun q => q he), e1]
  simp only [bindS]
  rw [e2]
  simp only [bindS]
  rw [R_isIn]
  simp only [bindS, bI_0]
  refine ⟨fun hn => by rw [if_pos hn], fun ha => ?_⟩
  rw [if_neg (fun q => q ha)]
  have m := hk p hp hq
  obtain ⟨M1, a1, R1, F1⟩ := R_marksNow R hp m hrz.1 hN0
  obtain ⟨M2, b1, b2, b3, b4, b5, b6, b7⟩ := R_swaps R1 (K.f23 F1) (W.mk m) (p := p) (side := side) (e := e) (o := 0) (amount := amount) ⟨hp, hq, hs, Or.inl rfl, he⟩ (by omega)
  rw [a1]
  simp only [bindS]
  rw [b1]
  simp only [bindS]
  generalize swap (mkN N p) T L p side amount e 0 = s at *
  obtain ⟨c1, c2, c3, c4, c5, c6⟩ := b2
  obtain ⟨M3, d1, d2, d3⟩ := R_trades c1 hp hk2 hper4 ht hxk.symm c3 c4
  rw [d1]
  simp only [bindS]
  have f31 : zL M3 20 31 = s.2.2.2.2.1 := by rw [(d3 20 (by omega) 31).2.1]; exact c4
  rw [f31]
  exact ⟨M3, rfl, d2, b4.f23 d3, ((FrS.of23 F1).trans b5).trans (FrS.of23 d3), f31⟩
/-- what out leaves alone -/
def FrO (M M' : MZ) : Prop := (∀ x, x ≠ 20 → x ≠ 23 → x ≠ 24 → sameH M M' x) ∧ (∀ k, k ≠ 33 → zI M' 20 k = zI M 20 k) ∧ (∀ k, k < 29 ∨ 32 < k → zL M' 20 k = zL M 20 k) ∧ (∀ k, 258 ≤ k → zL M' 24 k = zL M 24 k)
theorem FrO.ofS {M M' : MZ} (h : FrS M M') : FrO M M' := ⟨fun x h1 h2 _ => h.1 x h1 h2, h.2.1, h.2.2, fun k _ => (h.1 24 (by omega) (by omega) k).2.1⟩
theorem FrO.trans {M M' M'' : MZ} (a : FrO M M') (b : FrO M' M'') : FrO M M'' := ⟨fun x h1 h2 h3 => (a.1 x h1 h2 h3).trans (b.1 x h1 h2 h3), fun k hk => (b.2.1 k hk).trans (a.2.1 k hk), fun k hk => (b.2.2.1 k hk).trans (a.2.2.1 k hk), fun k hk => (b.2.2.2 k hk).trans (a.2.2.2 k hk)⟩
theorem FrO.rfl {M : MZ} : FrO M M := ⟨fun _ _ _ _ => sameH.rfl, fun _ _ => Eq.refl _, fun _ _ => Eq.refl _, fun _ _ => Eq.refl _⟩
theorem R_out (R : RepR M N T L th pe po) (K : KON M) (W : WF N T L th pe po) (hk : ∀ p : Nat, p < 5 → (p : Int) < po → Mrk N p) (hN0 : N 0 ≤ 9999999) {p per : Nat} (hp : p < 5) (hq : (p : Int) < po) (hper : (per : Int) < pe) {side : Int} (hs : side = 0 ∨ side = 1) {amount : Int} (ha : 1 ≤ amount ∧ amount ≤ 9999999) {s : SW} (es : swap (mkN N p) T L p side amount (if side = 0 then 0 else 40) 1 = s) :
    (0 < s.2.2.1 → ∃ M', g_X12_out per p side amount M = some (-2, M') ∧ RepR M' N T L th pe po ∧ KON M' ∧ FrO M M' ∧ zL M' 20 31 = s.2.2.2.2.1) ∧
    (s.2.2.1 ≤ 0 → N (uc T p (xk side) per) < s.2.2.2.1 → ∃ M', g_X12_out per p side amount M = some (-3, M') ∧ RepR M' N T L th pe po ∧ KON M' ∧ FrO M M' ∧ zL M' 20 31 = s.2.2.2.2.1) ∧
    (s.2.2.1 ≤ 0 → s.2.2.2.1 ≤ N (uc T p (xk side) per) → ∃ M', g_X12_out per p side amount M = some (w32 s.2.2.2.1, M') ∧ RepR M' (trN s.1 T p (xk side) per s.2.2.2.1 s.2.2.2.2.1) T s.2.1 th pe po ∧ KON M' ∧ FrO M M' ∧ zL M' 20 31 = s.2.2.2.2.1) := by
  obtain ⟨hxk, hk2⟩ := xk_r hs
  have hpe := W.1.r
  have ht := W.t2 hp hq
  have hper4 : per < 4 := by omega
  obtain ⟨t, et⟩ := zR_nat (ht.k hk2).1
  have t5 : t < 5 := by have := (ht.k hk2).2; omega
  have eu := uc_eq (per := per) et
  have e1 : g_X12_thingOf p side M = some ((t : Int), M) := by
    rw [R_thingOf hp (by omega) (by omega), R.2.1 _ (by omega)]
    have : T (5 * p + side.toNat) = t := et
    rw [this]
  have e2 : g_X12_inPurse per t M = some (N (uc T p (xk side) per), M) := by
    rw [R_inPurse hper4 t5, R.2.2.1 _ (by omega), eu]
  have hrz := (W.2.1 p hp hq).2
  have he : 0 ≤ (if side = 0 then (0 : Int) else 40) ∧ (if side = 0 then (0 : Int) else 40) ≤ 40 := by split <;> omega
  have hpool : 0 ≤ (p : Int) ∧ (p : Int) < zI M 20 3 := by rw [R.1.2.2]; omega
  have hpers : 0 ≤ (per : Int) ∧ (per : Int) < zI M 20 2 := by rw [R.1.2.1]; omega
  have m := hk p hp hq
  obtain ⟨M1, k1, k2, k3⟩ := R_keeps (lv := 0) (by omega) M
  have R1 : RepR M1 N T L th pe po := by
    obtain ⟨⟨a0, a1, a2⟩, hT, hN, hn, hL, h12⟩ := R
    have s20 := k2 20 (by omega)
    have s22 := k2 22 (by omega)
    have s23 := k2 23 (by omega)
    exact ⟨⟨by rw [(s20 1).1]; exact a0, by rw [(s20 2).1]; exact a1, by rw [(s20 3).1]; exact a2⟩, fun j hj => by rw [(s22 j).1]; exact hT j hj, fun j hj => by rw [(s23 j).2.1]; exact hN j hj, by rw [(s23 137).2.1]; exact hn, fun i hi w hw => by rw [(s23 _).2.1]; exact hL i hi w hw, h12⟩
  have K1 : KON M1 := K.mv (fun x hx => k2 x (by omega))
  obtain ⟨M2, a1, R2, F2⟩ := R_marksNow R1 hp m hrz.1 hN0
  obtain ⟨M3, b1, b2, b3, b4, b5, b6, b7⟩ := R_swaps R2 (K1.f23 F2) (W.mk m) (p := p) (side := side) (e := if side = 0 then 0 else 40) (o := 1) (amount := amount) ⟨hp, hq, hs, Or.inr rfl, he⟩ (by omega)
  rw [es] at b2 b3 b6 b7
  obtain ⟨c1, c2, c3, c4, c5, c6⟩ := b2
  have F13 : FrS M1 M3 := (FrS.of23 F2).trans b5
  have FO1 : FrO M M3 := by
    refine ⟨fun x h1 h2 h3 => (k2 x h3).trans (F13.1 x h1 h2), fun k hk => (F13.2.1 k hk).trans (k2 20 (by omega) k).1, fun k hk => (F13.2.2 k hk).trans (k2 20 (by omega) k).2.1, fun k hk => ?_⟩
    rw [(F13.1 24 (by omega) (by omega) k).2.1, k3 k, if_neg (by omega)]
  obtain ⟨M4, l1, l2, l3⟩ := R_laysBack (lv := 0) (by omega) M3
  have R4 : RepR M4 N T L th pe po := R.back k2 k3 (fun k hk => F13.2.1 k (by omega)) (F13.1 22 (by omega) (by omega)) (fun k _ _ => (F13.1 24 (by omega) (by omega) k).2.1) l2 l3
  have K4 : KON M4 := b4.mv (fun x hx => l2 x (by omega))
  have FO4 : FrO M M4 := FO1.trans ⟨fun x _ h2 _ => l2 x h2, fun k _ => (l2 20 (by omega) k).1, fun k _ => (l2 20 (by omega) k).2.1, fun k _ => (l2 24 (by omega) k).2.1⟩
  have g29 : zL M4 20 29 = s.2.2.1 := by rw [(l2 20 (by omega) 29).2.1]; exact c2
  have g31 : zL M4 20 31 = s.2.2.2.2.1 := by rw [(l2 20 (by omega) 31).2.1]; exact c4
  have k1' : g_X12_keeps 0 M = some ((), M1) := k1
  have l1' : g_X12_laysBack 0 M3 = some ((), M4) := l1
  unfold g_X12_out g_X12_out_36 g_X12_out_94 g_X12_out_115
  rw [R_isPerson]
  simp only [bindS, bI_0]
  rw [if_neg (fun q => q hpers), R_isPool]
  simp only [bindS, bI_0]
  rw [if_neg (fun q => q hpool), R_isSide]
  simp only [bindS, bI_0]
  rw [if_neg (fun q => q hs), R_isIn]
  simp only [bindS, bI_0]
  rw [if_neg (fun q => q ha), e1]
  simp only [bindS]
  rw [e2]
  simp only [bindS]
  rw [k1']
  simp only [bindS]
  rw [a1]
  simp only [bindS]
  rw [R_endOf]
  simp only [bindS]
  rw [b1]
  simp only [bindS]
  rw [c2, c3, l1']
  simp only [bindS]
  rw [g29]
  refine ⟨fun h0 => ?_, fun h0 h1 => ?_, fun h0 h1 => ?_⟩
  · rw [if_pos h0, if_neg (by omega)]
    exact ⟨M4, rfl, R4, K4, FO4, g31⟩
  · rw [if_neg (by omega), if_neg (by omega), if_pos h0]
    exact ⟨M4, rfl, R4, K4, FO4, g31⟩
  · rw [if_neg (by omega), if_pos h1]
    obtain ⟨M5, d1, d2, d3⟩ := R_trades c1 hp hk2 hper4 ht hxk.symm c3 c4
    rw [d1]
    simp only [bindS]
    rw [(d3 20 (by omega) 30).2.1, c3]
    exact ⟨M5, rfl, d2, b4.f23 d3, FO1.trans (FrO.ofS (FrS.of23 d3)), by rw [(d3 20 (by omega) 31).2.1]; exact c4⟩
end IO
