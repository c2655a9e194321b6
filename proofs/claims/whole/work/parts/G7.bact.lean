/-! a bundle is done: what holds between steps, and steps without brackets -/
def CR (Mc Mr : MZ) (N T : Nat → Int) (L : List (Nat → Int)) (th pe po : Int) (D : Nat → Nat → Int) (m per : Nat) : Prop :=
  Rep true Mc 78 N T L th pe po ∧ RepR Mr N T L th pe po ∧ KON Mr ∧ WF N T L th pe po ∧ MnyD D N T L po ∧ (∀ p : Nat, p < 5 → (p : Int) < po → Mrk N p) ∧ (0 ≤ N 0 ∧ N 0 ≤ 9999999) ∧ (∀ p k, D p k ≤ 39999996) ∧ (zI Mc 9 5 = per ∧ zI Mr 20 43 = per ∧ (per : Int) < pe) ∧ (zI Mr 20 46 = m ∧ m < 32 ∧ ∀ q, q < 5 → zI Mc 13 q = if m / 2 ^ q % 2 = 1 then 1 else 0) ∧ (∀ q : Nat, q < 5 → m / 2 ^ q % 2 = 1 → (q : Int) < po ∧ 1 ≤ dep L q (N (22 + 23 * q + 1))) ∧ (∀ q, q < 5 → ¬ (m / 2 ^ q % 2 = 1) → D q 0 = 0 ∧ D q 1 = 0)
def FCA (M M' : MZ) : Prop := (∀ x, x ≠ 4 → x ≠ 9 → ¬ (78 ≤ x ∧ x < 78 + 65) → sameH M M' x) ∧ (∀ k, zI M' 9 k = zI M 9 k)
def FRA (M M' : MZ) : Prop := (∀ x, x ≠ 20 → x ≠ 23 → x ≠ 24 → sameH M M' x) ∧ (∀ k, k ≠ 10 → k ≠ 33 → zI M' 20 k = zI M 20 k) ∧ (∀ k, k < 29 → zL M' 20 k = zL M 20 k) ∧ (∀ k, 258 ≤ k → zL M' 24 k = zL M 24 k)
theorem FCA.rfl {M : MZ} : FCA M M := ⟨fun _ _ _ _ => sameH.rfl, fun _ => Eq.refl _⟩
theorem FRA.rfl {M : MZ} : FRA M M := ⟨fun _ _ _ _ => sameH.rfl, fun _ _ _ => Eq.refl _, fun _ _ => Eq.refl _, fun _ _ => Eq.refl _⟩
theorem FCA.trans {M M' M'' : MZ} (a : FCA M M') (b : FCA M' M'') : FCA M M'' := ⟨fun x h1 h2 h3 => (a.1 x h1 h2 h3).trans (b.1 x h1 h2 h3), fun k => (b.2 k).trans (a.2 k)⟩
theorem FRA.trans {M M' M'' : MZ} (a : FRA M M') (b : FRA M' M'') : FRA M M'' := ⟨fun x h1 h2 h3 => (a.1 x h1 h2 h3).trans (b.1 x h1 h2 h3), fun k h1 h2 => (b.2.1 k h1 h2).trans (a.2.1 k h1 h2), fun k h => (b.2.2.1 k h).trans (a.2.2.1 k h), fun k h => (b.2.2.2 k h).trans (a.2.2.2 k h)⟩
theorem FCA.of4 {M M' : MZ} (h : ∀ x, x ≠ 4 → ¬ (78 ≤ x ∧ x < 78 + 65) → sameH M M' x) : FCA M M' := ⟨fun x h1 _ h3 => h x h1 h3, fun k => (h 9 (by omega) (by omega) k).1⟩
theorem FCA.ofB {M M' : MZ} (h : FrB 78 M M') : FCA M M' := ⟨fun x _ _ h3 => h x h3, fun k => (h 9 (by omega) k).1⟩
theorem FCA_8 {M : MZ} {v : Int} : FCA M (uL M 9 8 v) := ⟨fun x _ h2 _ => sameH_uL h2, fun _ => Eq.refl _⟩
theorem FRA.ofO {M M' : MZ} (h : FrO M M') : FRA M M' := ⟨h.1, fun k _ h2 => h.2.1 k h2, fun k hk => h.2.2.1 k (Or.inl hk), h.2.2.2⟩
theorem FRA.of23 {M M' : MZ} (h : Fr23 M M') : FRA M M' := ⟨fun x _ h2 _ => h x h2, fun k _ _ => (h 20 (by omega) k).1, fun k _ => (h 20 (by omega) k).2.1, fun k _ => (h 24 (by omega) k).2.1⟩
theorem FRA_10 {M : MZ} {v : Int} : FRA M (uI M 20 10 v) := ⟨fun x h1 _ _ => sameH_uI h1, fun k h1 _ => by rw [zI_uI, if_neg (fun q => h1 q.2)], fun _ _ => Eq.refl _, fun _ _ => Eq.refl _⟩
theorem FRA_45 {M : MZ} {v : Int} : FRA M (uL M 20 45 v) := ⟨fun x h1 _ _ => sameH_uL h1, fun _ _ _ => Eq.refl _, fun k hk => by rw [zL_uL, if_neg (by omega)], fun k _ => by rw [zL_uL, if_neg (by omega)]⟩
section AC
variable {Mc Mr : MZ} {N T : Nat → Int} {L : List (Nat → Int)} {th pe po : Int} {D : Nat → Nat → Int} {m per i : Nat}
theorem CR.nx (h : CR Mc Mr N T L th pe po D m per) {Mc' Mr' : MZ} {N' : Nat → Int} {L' : List (Nat → Int)} (a : FCA Mc Mc') (c : FRA Mr Mr') (R : Rep true Mc' 78 N' T L' th pe po) (RR : RepR Mr' N' T L' th pe po) (K : KON Mr') (W : WF N' T L' th pe po) (hM : MnyD D N' T L' po) (hk : ∀ p : Nat, p < 5 → (p : Int) < po → Mrk N' p) (h0 : N' 0 = N 0) (hl : ∀ q : Nat, q < 5 → m / 2 ^ q % 2 = 1 → N' (22 + 23 * q + 1) = N (22 + 23 * q + 1) ∧ ∀ y : Int, dep L q y ≤ dep L' q y) : CR Mc' Mr' N' T L' th pe po D m per := by
  obtain ⟨_, _, _, _, _, _, ht, hD, ⟨p1, p2, p3⟩, ⟨l1, l2, l3⟩, l4, l5⟩ := h
  refine ⟨R, RR, K, W, hM, hk, by rw [h0]; exact ht, hD, ⟨by rw [a.2]; exact p1, by rw [c.2.1 43 (by omega) (by omega)]; exact p2, p3⟩, ⟨by rw [c.2.1 46 (by omega) (by omega)]; exact l1, l2, fun q hq => by rw [(a.1 13 (by omega) (by omega) (by omega) q).1]; exact l3 q hq⟩, fun q hq hm => ?_, l5⟩
  obtain ⟨g1, g2⟩ := hl q hq hm
  obtain ⟨g3, g4⟩ := l4 q hq hm
  have := g2 (N (22 + 23 * q + 1))
  rw [g1]
  exact ⟨g3, by omega⟩
theorem R_stops (hi : i < 40) (k : Int) (M : MZ) : g_X12_stops k i M = some (0, uI M 20 10 (fz k (zI M 29 i))) := by
  unfold g_X12_stops g_X12_fails
  rw [if_pos (by omega), Int.toNat_natCast]
  simp only [bindS]
  rw [if_pos (Or.inl trivial)]
  rfl
theorem R_stopb (hi : i < 40) (k : Int) (M : MZ) : ((g_X12_stops k i M).bind fun q => if q.1 = 0 ∨ q.1 = 1 then some (q.1, q.2) else none) = some (0, uI M 20 10 (fz k (zI M 29 i))) := by
  rw [R_stops hi]
  simp only [bindS]
  rw [if_pos (Or.inl trivial)]
theorem K_isLocked (h : CR Mc Mr N T L th pe po D m per) {p : Nat} (hp : p < 5) : g_X5_isLocked p Mc = some (if m / 2 ^ p % 2 = 1 then 1 else 0, Mc) := by
  have e := h.2.2.2.2.2.2.2.2.2.1.2.2 p hp
  unfold g_X5_isLocked g_X5_isLocked_26 g_X5_isLocked_27
  rw [if_neg (by omega), if_neg (by omega), if_pos (by omega), Int.toNat_natCast, e, if_pos (Or.inl rfl), if_pos (Or.inr rfl)]
  by_cases c : m / 2 ^ p % 2 = 1
  · rw [if_pos c, if_neg (by omega)]
  · rw [if_neg c, if_pos rfl]
theorem R_isOpen (h : CR Mc Mr N T L th pe po D m per) {p : Nat} (hp : p < 5) : g_X12_isOpen p Mr = some (if (p : Int) < po ∧ ¬ (m / 2 ^ p % 2 = 1) then 1 else 0, Mr) := by
  obtain ⟨l1, l2, l3⟩ := h.2.2.2.2.2.2.2.2.2.1
  unfold g_X12_isOpen g_X12_isOpen_23 g_X12_isOpen_24
  rw [R_isPool, h.2.1.1.2.2]
  simp only [bindS, bI_0]
  rw [l1, mk_get m l2 p hp, if_pos (Or.inl trivial), if_pos (Or.inr trivial)]
  by_cases c1 : (p : Int) < po
  · rw [if_neg (show ¬ ¬ (0 ≤ (p : Int) ∧ (p : Int) < po) by omega)]
    by_cases c2 : m / 2 ^ p % 2 = 1
    · rw [if_pos c2, if_neg (by omega), if_neg (fun q => q.2 c2)]
    · rw [if_neg c2, if_pos rfl, if_pos ⟨c1, c2⟩]
  · rw [if_pos (show ¬ (0 ≤ (p : Int) ∧ (p : Int) < po) by omega), if_neg (fun q => c1 q.1)]
/-- so much -/
def muc (Mr : MZ) (i : Nat) (g x : Int) : Int := if zI Mr 31 i = 0 then zI Mr 30 (4 * i + 2) else if zI Mr 31 i = 2 then g else x
theorem K_much (hi : i < 40) (hq : MUp Mc Mr i) {g : Int} (hg : zL Mc 9 8 = g) (x : Int) : g_X5_muchOf (38 + i) x Mc = some (muc Mr i g x, Mc) := by
  obtain ⟨q1, q2, q3⟩ := hq
  unfold g_X5_muchOf g_X5_muchOf_31 muc
  rw [if_pos (kdt i hi), q1, hg]
  by_cases c0 : zI Mr 31 i = 0
  · rw [if_neg (by omega), if_neg (by omega), if_pos c0, (q3 c0).1]
  · rw [if_neg c0]
    by_cases c1 : zI Mr 31 i = 2
    · rw [if_neg (by omega), if_pos c1, if_pos c1]
    · rw [if_pos (by omega), if_neg c1]
theorem R_much (h : CR Mc Mr N T L th pe po D m per) (hi : i < 40) (hq : MUp Mc Mr i) {p k : Nat} (hp : p < 5) (hpo : (p : Int) < po) (hk : k < 2) (e0 : zI Mr 30 (4 * i) = p) (e1 : zI Mr 30 (4 * i + 1) = k) {g : Int} (hg : zL Mr 20 45 = g) : g_X12_muchOf i Mr = some (muc Mr i g (if zI Mr 28 i = 0 then N (uc T p k per) else if zI Mr 28 i = 1 then N (22 + 23 * p + (2 + (1 - k))) else N (22 + 23 * p + (2 + k))), Mr) := by
  obtain ⟨q1, q2, q3⟩ := hq
  have W := h.2.2.2.1
  have hpe := W.1.r
  have ht := (W.t2 hp hpo).k hk
  obtain ⟨_, p2, p3⟩ := h.2.2.2.2.2.2.2.2.1
  have hb : (0 : Int) ≤ (i : Int) ∧ (i : Int) < ((40 : Nat) : Int) := by omega
  unfold g_X12_muchOf g_X12_muchOf_9 g_X12_muchOf_20 g_X12_muchOf_100 muc
  rw [w32_id (x := 4 * (i : Int)) (by omega) (by omega), w32_id (x := 4 * (i : Int) + 1) (by omega) (by omega), w32_id (x := 4 * (i : Int) + 2) (by omega) (by omega), if_pos (show (0 : Int) ≤ 4 * (i : Int) ∧ 4 * (i : Int) < ((160 : Nat) : Int) by omega), if_pos (show (0 : Int) ≤ 4 * (i : Int) + 1 ∧ 4 * (i : Int) + 1 < ((160 : Nat) : Int) by omega), if_pos (show (0 : Int) ≤ 4 * (i : Int) + 2 ∧ 4 * (i : Int) + 2 < ((160 : Nat) : Int) by omega), if_pos hb, if_pos hb, if_pos hb, if_pos hb, show 4 * (i : Int) = ((4 * i : Nat) : Int) by omega, show ((4 * i : Nat) : Int) + 1 = ((4 * i + 1 : Nat) : Int) by omega, show ((4 * i : Nat) : Int) + 2 = ((4 * i + 2 : Nat) : Int) by omega, Int.toNat_natCast, Int.toNat_natCast, Int.toNat_natCast, Int.toNat_natCast, e0, e1, hg, p2]
  by_cases c0 : zI Mr 31 i = 0
  · rw [if_pos c0, if_pos c0]
  rw [if_neg c0, if_neg c0]
  by_cases c1 : zI Mr 31 i = 2
  · rw [if_pos c1, if_pos c1]
  rw [if_neg c1, if_neg c1]
  by_cases c2 : zI Mr 28 i = 0
  · rw [if_pos c2, if_pos c2, R_thingOf hp (by omega) (by omega), h.2.1.2.1 _ (by omega), Int.toNat_natCast]
    simp only [bindS]
    obtain ⟨t, et⟩ := zR_nat ht.1
    rw [et, R_inPurse (by omega) (by omega), h.2.1.2.2.1 _ (by omega)]
    simp only [bindS]
    rw [uc_eq et]
  rw [if_neg c2, if_neg c2]
  by_cases c3 : zI Mr 28 i = 1
  · rw [if_pos c3, if_pos c3, w32_id (x := 1 - (k : Int)) (by omega) (by omega), w32_id (x := 2 + (1 - (k : Int))) (by omega) (by omega), R_pool h.2.1 hp (by omega) (by omega)]
    simp only [bindS]
    rw [show (2 + (1 - (k : Int))).toNat = 2 + (1 - k) by omega]
  · rw [if_neg c3, if_neg c3, w32_id (x := 2 + (k : Int)) (by omega) (by omega), R_pool h.2.1 hp (by omega) (by omega)]
    simp only [bindS]
    rw [show (2 + (k : Int)).toNat = 2 + k by omega]
theorem muc_r {Mr : MZ} {i : Nat} (hq : MUp Mc Mr i) {g x : Int} (hg : 0 ≤ g ∧ g ≤ 1000000000000) (hx : 0 ≤ x ∧ x ≤ 1000000000000) : 0 ≤ muc Mr i g x ∧ muc Mr i g x ≤ 1000000000000 := by
  unfold muc
  by_cases c0 : zI Mr 31 i = 0
  · rw [if_pos c0]
    have := (hq.2.2 c0).2
    omega
  · rw [if_neg c0]
    split <;> omega
/-- how a step ends -/
def ACT (Mc Mr : MZ) (T : Nat → Int) (th pe po : Int) (D : Nat → Nat → Int) (m per : Nat) (A C : Option (Int × MZ)) (fl : Int) : Prop :=
  (∃ Mc' Mr', A = some (1, Mc') ∧ C = some (1, Mr') ∧ FCA Mc Mc' ∧ FRA Mr Mr' ∧ (∃ N' L', CR Mc' Mr' N' T L' th pe po D m per) ∧ (zL Mr' 20 45 = zL Mc' 9 8 ∧ 0 ≤ zL Mc' 9 8 ∧ zL Mc' 9 8 ≤ 1000000000000)) ∨
  (∃ Mc' Mr', A = some (0, Mc') ∧ C = some (0, Mr') ∧ FCA Mc Mc' ∧ FRA Mr Mr' ∧ zI Mr' 20 10 = fl ∧ HP Mc' 78 ∧ KON Mr')
theorem KON.u10 {M : MZ} (K : KON M) (v : Int) : KON (uI M 20 10 v) := K
theorem ACT_no (h : CR Mc Mr N T L th pe po D m per) {A C : Option (Int × MZ)} {fl : Int} (hA : A = some (0, Mc)) (hC : C = some (0, uI Mr 20 10 fl)) : ACT Mc Mr T th pe po D m per A C fl := Or.inr ⟨Mc, _, hA, hC, FCA.rfl, FRA_10, zI_at _ _ _ _, h.1.2.2.2.2.2.1, h.2.2.1⟩
theorem a_in (h : CR Mc Mr N T L th pe po D m per) (hi : i < 40) (hs : PSp Mc Mr i) (hu : MUp Mc Mr i) (hk0 : zI Mr 28 i = 0) {g : Int} (g1 : zL Mc 9 8 = g) (g2 : zL Mr 20 45 = g) (hg : 0 ≤ g ∧ g ≤ 1000000000000) : ACT Mc Mr T th pe po D m per (g_X5_doIn (38 + i) Mc) (g_X12_swapsOne i Mr) (fz 5 (zI Mr 29 i)) := by
  have h' := h
  obtain ⟨R, RR, K, W, hM, hk, ht, hD, ⟨p1, p2, p3⟩, ⟨l1, l2, l3⟩, l4, l5⟩ := h'
  have hpe := W.1.r
  have h12 := R.2.2.2.2.2.2
  obtain ⟨s1, s2, s3, s4⟩ := hs
  obtain ⟨p, ep⟩ := zR_nat s2.1
  obtain ⟨k, ek⟩ := zR_nat s4.1
  rw [ep] at s1 s2
  rw [ek] at s3 s4
  have hp : p < 5 := by omega
  have hk2 : k < 2 := by omega
  have hb4 : w32 (4 * (i : Int)) = ((4 * i : Nat) : Int) := by rw [w32_id (by omega) (by omega)]; omega
  have hb5 : w32 (((4 * i : Nat) : Int) + 1) = ((4 * i + 1 : Nat) : Int) := by rw [w32_id (by omega) (by omega)]; omega
  have eR : g_X12_swapsOne i Mr = g_X12_swapsOne_9 i p Mr := by
    unfold g_X12_swapsOne
    rw [hb4, if_pos (by clear hb4 hb5; omega), Int.toNat_natCast, ep]
  have eR9 : g_X12_swapsOne_9 i p Mr = if (p : Int) < po ∧ ¬ (m / 2 ^ p % 2 = 1) then ((g_X12_muchOf i Mr).bind fun q26 => ((g_X12_isIn q26.1 1 2147483647 q26.2).bind fun q35 => (if q35.1 = 0 then ((g_X12_stops 5 i q35.2).bind fun q44 => (if (q44.1 = 0 ∨ q44.1 = 1) then (some (q44.1, q44.2)) else none)) else (if (0 ≤ (w32 ((w32 (4 * (i : Int))) + 1)) ∧ (w32 ((w32 (4 * (i : Int))) + 1)) < ((160 : Nat) : Int)) then (g_X12_swapsOne_60 i p q26.1 (zI q35.2 30 ((w32 ((w32 (4 * (i : Int))) + 1))).toNat) q35.2) else none)))) else some (0, uI Mr 20 10 (fz 5 (zI Mr 29 i))) := by
    unfold g_X12_swapsOne_9
    rw [R_isOpen h hp]
    simp only [bindS]
    by_cases c : (p : Int) < po ∧ ¬ (m / 2 ^ p % 2 = 1)
    · rw [if_pos c, if_neg (by omega), if_pos c]
    · rw [if_neg c, if_pos rfl, if_neg c, R_stopb hi]
  clear hb4 hb5
  have eK : g_X5_doIn (38 + i) Mc = ((g_X2_poolAt 78 p Mc).bind fun q8 => (if q8.1 = 0 then (g_X5_doIn_27 q8.2) else ((g_X5_isLocked (zI q8.2 (38 + i) 2) q8.2).bind fun q21 => (if q21.1 = 0 then (if kd q8.1 = (3, 12) then ((g_X4_thingOn q8.1 (zI q21.2 (38 + i) 3) q21.2).bind fun q42 => ((g_X2_purseOf 78 (zI q21.2 9 5) q42.1 q42.2).bind fun q45 => ((g_X5_muchOf (38 + i) q45.1 q45.2).bind fun q52 => (if q52.1 < 1 then (g_X5_doIn_72 q52.2) else (if q52.1 ≤ q45.1 then ((g_X11_lastTick (zI q52.2 (38 + i) 3) q52.2).bind fun q100 => ((g_X10_pour 78 (zI q52.2 9 5) (zI q52.2 (38 + i) 2) (zI q52.2 (38 + i) 3) q52.1 q100.1 1 q100.2).bind fun q104 => (some (1, (uL q104.2 9 8 (zL q104.2 4 11)))))) else (g_X5_doIn_72 q52.2)))))) else none) else (g_X5_doIn_27 q21.2))))) := by
    unfold g_X5_doIn
    rw [if_pos (kdt i hi), s1]
  rw [eR, eR9, eK]
  unfold g_X5_doIn_27 g_X5_doIn_72
  by_cases c1 : (p : Int) < po
  case neg =>
    rw [if_neg (fun q => c1 q.1)]
    refine ACT_no h ?_ rfl
    rw [K_poolAt_n b78 (by rw [R.1.2.2.1]; omega)]
    simp only [bindS]
    rw [if_pos trivial]
  rw [K_poolAt_y b78 hp (by rw [R.1.2.2.1]; exact c1)]
  simp only [bindS]
  rw [if_neg (show ¬ 78 + 2 + 2 + 5 * p = 0 by omega), s1, K_isLocked h hp]
  simp only [bindS]
  by_cases c2 : m / 2 ^ p % 2 = 1
  · rw [if_pos c2, if_neg (show ¬ (1 : Int) = 0 by omega), if_neg (show ¬ ((p : Int) < po ∧ ¬ (m / 2 ^ p % 2 = 1)) from fun q => q.2 c2)]
    exact ACT_no h rfl rfl
  rw [if_neg c2, if_pos (show (0 : Int) = 0 from rfl), if_pos (show (p : Int) < po ∧ ¬ (m / 2 ^ p % 2 = 1) from ⟨c1, c2⟩), if_pos (kdp b78 hp), s3, K_thingOn b78 hp, p1]
  simp only [bindS]
  have hT := (W.t2 hp c1).k hk2
  obtain ⟨t, et⟩ := zR_nat hT.1
  have eth : zI Mc (78 + 2 + 2 + 5 * p) (if (k : Int) = 0 then 0 else 1) = (t : Int) := by
    rw [← et]
    have hkk : k = 0 ∨ k = 1 := by omega
    rcases hkk with rfl | rfl
    · rw [if_pos (by omega)]; exact R.2.2.1 p hp c1 0 (by omega)
    · rw [if_neg (by omega)]; exact R.2.2.1 p hp c1 1 (by omega)
  have eu := uc_eq (p := p) (k := k) (per := per) et
  have hpur := hM.hU (5 * per + t) (by omega)
  rw [← eu] at hpur
  rw [eth, w32_purse b78 R hM (by omega) (by omega), ← eu]
  simp only [bindS]
  rw [K_much hi hu g1, R_much h hi hu hp c1 hk2 ep ek g2, if_pos hk0]
  simp only [bindS]
  have hmr := muc_r hu hg (x := N (uc T p k per)) (by omega)
  generalize muc Mr i g (N (uc T p k per)) = a at *
  rw [R_isIn]
  simp only [bindS, bI_0]
  by_cases c3 : 1 ≤ a ∧ a ≤ 2147483647
  case neg =>
    rw [if_pos c3, R_stopb hi]
    refine ACT_no h ?_ rfl
    by_cases c4 : a < 1
    · rw [if_pos c4]
    · rw [if_neg c4, if_neg (by omega)]
  rw [if_neg (show ¬ a < 1 by omega), if_neg (show ¬ ¬ (1 ≤ a ∧ a ≤ 2147483647) from fun q => q c3), w32_id (x := 4 * (i : Int)) (by omega) (by omega), w32_id (x := 4 * (i : Int) + 1) (by omega) (by omega), if_pos (show (0 : Int) ≤ 4 * (i : Int) + 1 ∧ 4 * (i : Int) + 1 < ((160 : Nat) : Int) by omega), show 4 * (i : Int) + 1 = ((4 * i + 1 : Nat) : Int) by omega, Int.toNat_natCast, ek]
  unfold g_X12_swapsOne_60 g_X12_swapsOne_103
  rw [if_pos (show (0 : Int) ≤ (i : Int) ∧ (i : Int) < ((40 : Nat) : Int) by omega), Int.toNat_natCast, if_pos hk0, R_endOf]
  simp only [bindS]
  rw [p2, w32_id (x := a) (by omega) (by omega)]
  have hs01 : (k : Int) = 0 ∨ (k : Int) = 1 := by omega
  have exk : xk (k : Int) = k := Int.toNat_natCast k
  have hin := R_in (D := D) RR K W hk hM ht.2 hp c1 p3 hs01 (e := eT (k : Int)) (by unfold eT; split <;> omega) a
  rw [exk] at hin
  have eE : (if (k : Int) = 0 then (0 : Int) else 40) = eT (k : Int) := rfl
  rw [eE]
  by_cases c5 : a ≤ N (uc T p k per)
  case neg =>
    rw [if_neg c5, hin.1 (fun q => c5 q.2)]
    simp only [bindS]
    rw [if_neg (show ¬ (0 : Int) ≤ -1 by omega), R_stopb hi]
    exact ACT_no h rfl rfl
  rw [if_pos c5, s3, K_lastTick]
  simp only [bindS]
  rw [p1, s1, eE]
  have mm := hk p hp c1
  have hrz := (W.2.1 p hp c1).2
  have hb : Pbg p po (k : Int) (eT (k : Int)) 0 := hp_b (a := a) hp c1 hs01
  have ha : 0 < a ∧ a ≤ 10000000000 := by omega
  obtain ⟨M1, a1, a2⟩ := K_pour1 b78 R (W.mk mm) hb (MkO_true b78 R hp c1 mm hrz.1 ht.2) ⟨mkN_at mm (by omega), mkN_at mm (by omega)⟩ ha (per := per) (Or.inr ⟨by omega, by omega⟩)
  have hpu := fun s es => swap_pure (s := s) (D := D) W h12 hk hM hD (p := p) (per := per) (l5 p hp c2) hb ha (by omega) es
  have hW := swap_WF W h12 mm hb ha
  have hgo := swap_go (W.mk mm) h12 hb ha
  have hoth := fun q (hne : q ≠ p) => swap_oth W h12 hk hne hb ha
  have hin2 := hin.2 ⟨c3.1, c5⟩
  rw [exk] at hpu
  obtain ⟨_, a3, ⟨a4, a5, a6⟩, a7⟩ := a2
  rw [exk] at a3
  generalize swap (mkN N p) T L p (k : Int) a (eT (k : Int)) 0 = s at *
  obtain ⟨u1, u2, u3, u4, u5⟩ := hpu s rfl
  have u3' := u3 rfl
  obtain ⟨v1, v2, v3, v4⟩ := u5 (by have := hW.2; omega) hW.1
  obtain ⟨M2, b1, b2, b3, b4, b5⟩ := hin2
  rw [a1, b1]
  simp only [bindS]
  rw [a5, b5, w32_id (x := s.2.2.2.2.1) (by omega) (by omega), if_pos u2.1]
  refine Or.inl ⟨_, _, rfl, rfl, (FCA.of4 a7).trans FCA_8, (FRA.ofO (FrO.ofS b4)).trans FRA_45, ⟨trN s.1 T p k per s.2.2.2.1 s.2.2.2.2.1, s.2.1, ?_⟩, ?_⟩
  · refine h.nx ((FCA.of4 a7).trans FCA_8) ((FRA.ofO (FrO.ofS b4)).trans FRA_45) ((a3 per (by omega) rfl).same (fun x h1 h2 => sameH_uL (by omega))) (b2.scL 45 _) (b3.scL (by omega) _) v2 v1 v3 v4 (fun q hq hm => ?_)
    have hne : q ≠ p := fun e => c2 (by rw [← e]; exact hm)
    have ho := hoth q hne
    refine ⟨?_, fun y => by rw [ho.2]; exact Int.le_refl _⟩
    have hper4 : per < 4 := by omega
    rw [trN_at (W.t2 hp c1) hk2, if_neg (by have := uc_r (W.t2 hp c1) (show 1 - k < 2 by omega) hper4; omega), if_neg (by have := uc_r (W.t2 hp c1) hk2 hper4; omega)]
    exact ho.1
  · have e1 : zL (uL M2 20 45 s.2.2.2.2.1) 20 45 = s.2.2.2.2.1 := zL_at _ _ _ _
    have e2 : zL (uL M1 9 8 s.2.2.2.2.1) 9 8 = s.2.2.2.2.1 := zL_at _ _ _ _
    rw [e1, e2]
    exact ⟨rfl, u2⟩
end AC
