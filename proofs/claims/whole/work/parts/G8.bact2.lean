/-! out, add, drop, least of a bundle -/
def ACP (Mc Mr : MZ) (T : Nat → Int) (th pe po : Int) (D : Nat → Nat → Int) (m per : Nat) (A : Int → MZ → Prop) (C : Option (Int × MZ)) (fl : Int) : Prop :=
  (∃ Mc' Mr', A 1 Mc' ∧ C = some (1, Mr') ∧ FCA Mc Mc' ∧ FRA Mr Mr' ∧ (∃ N' L', CR Mc' Mr' N' T L' th pe po D m per) ∧ (zL Mr' 20 45 = zL Mc' 9 8 ∧ 0 ≤ zL Mc' 9 8 ∧ zL Mc' 9 8 ≤ 1000000000000)) ∨
  (∃ Mc' Mr', A 0 Mc' ∧ C = some (0, Mr') ∧ FCA Mc Mc' ∧ FRA Mr Mr' ∧ zI Mr' 20 10 = fl ∧ HP Mc' 78 ∧ KON Mr')
section AC2
variable {Mc Mr : MZ} {N T : Nat → Int} {L : List (Nat → Int)} {th pe po : Int} {D : Nat → Nat → Int} {m per i : Nat}
theorem ACT.p {A C : Option (Int × MZ)} {fl : Int} (h : ACT Mc Mr T th pe po D m per A C fl) : ACP Mc Mr T th pe po D m per (fun f M => A = some (f, M)) C fl := h
theorem ACP_no (h : CR Mc Mr N T L th pe po D m per) {A : Int → MZ → Prop} {C : Option (Int × MZ)} {fl : Int} (hA : A 0 Mc) (hC : C = some (0, uI Mr 20 10 fl)) : ACP Mc Mr T th pe po D m per A C fl := Or.inr ⟨Mc, _, hA, hC, FCA.rfl, FRA_10, zI_at _ _ _ _, h.1.2.2.2.2.2.1, h.2.2.1⟩
theorem R_out_no (h : CR Mc Mr N T L th pe po D m per) {p k : Nat} (hp : p < 5) (hq : (p : Int) < po) (hk : k < 2) {a : Int} (ha : ¬ (1 ≤ a ∧ a ≤ 9999999)) : g_X12_out per p k a Mr = some (-1, Mr) := by
  have RR := h.2.1
  have p3 := h.2.2.2.2.2.2.2.2.1.2.2
  unfold g_X12_out g_X12_out_36
  rw [R_isPerson, RR.1.2.1]
  simp only [bindS, bI_0]
  rw [if_neg (show ¬ ¬ (0 ≤ (per : Int) ∧ (per : Int) < pe) by omega), R_isPool, RR.1.2.2]
  simp only [bindS, bI_0]
  rw [if_neg (show ¬ ¬ (0 ≤ (p : Int) ∧ (p : Int) < po) by omega), R_isSide]
  simp only [bindS, bI_0]
  rw [if_neg (show ¬ ¬ ((k : Int) = 0 ∨ (k : Int) = 1) by omega), R_isIn]
  simp only [bindS, bI_0]
  rw [if_pos ha]
theorem a_out (h : CR Mc Mr N T L th pe po D m per) (hi : i < 40) (hs : PSp Mc Mr i) (hu : MUp Mc Mr i) (hk1 : zI Mr 28 i = 1) {g : Int} (g1 : zL Mc 9 8 = g) (g2 : zL Mr 20 45 = g) (hg : 0 ≤ g ∧ g ≤ 1000000000000) : ACT Mc Mr T th pe po D m per (g_X5_doOut (38 + i) Mc) (g_X12_swapsOne i Mr) (fz 5 (zI Mr 29 i)) := by
  have h' := h
  obtain ⟨R, RR, K, W, hM, hk, ht, hD, ⟨p1, p2, p3⟩, ⟨l1, l2, l3⟩, l4, l5⟩ := h'
  have hpe := W.1.r
  have h12 := R.2.2.2.2.2.2
  obtain ⟨s1, s2, s3, s4⟩ := hs
  obtain ⟨p, ep⟩ := zR_nat s2.1
  obtain ⟨k, ek⟩ := zR_nat s4.1
  rw [ep] at s1 s2
  rw [ek] at s3 s4
  have hp : p < 5 := by omega
  have hk2 : k < 2 := by omega
  have eR : g_X12_swapsOne i Mr = g_X12_swapsOne_9 i p Mr := by
    unfold g_X12_swapsOne
    rw [w32_id (x := 4 * (i : Int)) (by omega) (by omega), if_pos (by omega), show 4 * (i : Int) = ((4 * i : Nat) : Int) by omega, Int.toNat_natCast, ep]
  have eR9 : g_X12_swapsOne_9 i p Mr = if (p : Int) < po ∧ ¬ (m / 2 ^ p % 2 = 1) then ((g_X12_muchOf i Mr).bind fun q26 => ((g_X12_isIn q26.1 1 2147483647 q26.2).bind fun q35 => (if q35.1 = 0 then ((g_X12_stops 5 i q35.2).bind fun q44 => (if (q44.1 = 0 ∨ q44.1 = 1) then (some (q44.1, q44.2)) else none)) else (if (0 ≤ (w32 ((w32 (4 * (i : Int))) + 1)) ∧ (w32 ((w32 (4 * (i : Int))) + 1)) < ((160 : Nat) : Int)) then (g_X12_swapsOne_60 i p q26.1 (zI q35.2 30 ((w32 ((w32 (4 * (i : Int))) + 1))).toNat) q35.2) else none)))) else some (0, uI Mr 20 10 (fz 5 (zI Mr 29 i))) := by
    unfold g_X12_swapsOne_9
    rw [R_isOpen h hp]
    simp only [bindS]
    by_cases c : (p : Int) < po ∧ ¬ (m / 2 ^ p % 2 = 1)
    · rw [if_pos c, if_neg (by omega), if_pos c]
    · rw [if_neg c, if_pos rfl, if_neg c, R_stopb hi]
  unfold g_X5_doOut g_X5_doOut_27 g_X5_doOut_82
  rw [eR, eR9, if_pos (kdt i hi), s1]
  by_cases c1 : (p : Int) < po
  case neg =>
    rw [if_neg (show ¬ ((p : Int) < po ∧ ¬ (m / 2 ^ p % 2 = 1)) from fun q => c1 q.1)]
    refine ACT_no h ?_ rfl
    rw [K_poolAt_n b78 (by rw [R.1.2.2.1]; omega)]
    simp only [bindS]
    rw [if_pos trivial]
  rw [K_poolAt_y b78 hp (by rw [R.1.2.2.1]; exact c1)]
  simp only [bindS]
  rw [if_neg (show ¬ 78 + 2 + 2 + 5 * p = 0 by omega), s1, K_isLocked h hp]
  simp only [bindS]
  by_cases c2 : m / 2 ^ p % 2 = 1
  · rw [if_pos c2, if_neg (show ¬ (1 : Int) = 0 by omega), if_neg (show ¬ ((p : Int) < po ∧ ¬ (m / 2 ^ p % 2 = 1)) from fun q => q.2 c2)]
    exact ACT_no h rfl rfl
  rw [if_neg c2, if_pos (show (0 : Int) = 0 from rfl), if_pos (show (p : Int) < po ∧ ¬ (m / 2 ^ p % 2 = 1) from ⟨c1, c2⟩), if_pos (kdp b78 hp), s3, K_thingOn b78 hp, p1]
  simp only [bindS]
  have hT := (W.t2 hp c1).k hk2
  have hT' := (W.t2 hp c1).k (show 1 - k < 2 by omega)
  obtain ⟨t, et⟩ := zR_nat hT.1
  have eth : zI Mc (78 + 2 + 2 + 5 * p) (if (k : Int) = 0 then 0 else 1) = (t : Int) := by
    rw [← et]
    have hkk : k = 0 ∨ k = 1 := by omega
    rcases hkk with rfl | rfl
    · rw [if_pos (by omega)]; exact R.2.2.1 p hp c1 0 (by omega)
    · rw [if_neg (by omega)]; exact R.2.2.1 p hp c1 1 (by omega)
  have eu := uc_eq (p := p) (k := k) (per := per) et
  have hpur := hM.hU (5 * per + t) (by omega)
  rw [← eu] at hpur
  have hheld : 0 ≤ N (22 + 23 * p + (2 + (1 - k))) ∧ N (22 + 23 * p + (2 + (1 - k))) ≤ 39999996 := ⟨(hM.2.1 p (1 - k) hp c1 (by omega)).2.1, hM.bp hp c1 (by omega) hT'⟩
  have eheld : zI Mc (78 + 2 + 2 + 5 * p + 1) (1 - k) = N (22 + 23 * p + (2 + (1 - k))) := by rw [K_held R hp c1 (by omega), w32_id (by omega) (by omega)]
  rw [eth, w32_purse b78 R hM (by omega) (by omega), ← eu]
  simp only [bindS]
  rw [s3, w32_id (x := 1 - (k : Int)) (by omega) (by omega), K_heldOn (kdp b78 hp)]
  simp only [bindS]
  rw [if_pos (show 1 - (k : Int) = 0 ∨ 1 - (k : Int) = 1 by omega), show (1 - (k : Int)).toNat = 1 - k by omega, eheld, K_much hi hu g1, R_much h hi hu hp c1 hk2 ep ek g2, if_neg (show ¬ zI Mr 28 i = 0 by omega), if_pos hk1]
  simp only [bindS]
  have hmr := muc_r hu hg (x := N (22 + 23 * p + (2 + (1 - k)))) (by omega)
  generalize muc Mr i g (N (22 + 23 * p + (2 + (1 - k)))) = a at *
  rw [R_isIn]
  simp only [bindS, bI_0]
  by_cases c3 : 1 ≤ a ∧ a ≤ 2147483647
  case neg =>
    rw [if_pos c3, R_stopb hi]
    refine ACT_no h ?_ rfl
    by_cases c4 : a < 1
    · rw [if_pos c4]
    · rw [if_neg c4, if_neg (by omega)]
  rw [if_neg (show ¬ a < 1 by omega), if_neg (show ¬ ¬ (1 ≤ a ∧ a ≤ 2147483647) from fun q => q c3), w32_id (x := 4 * (i : Int)) (by omega) (by omega), w32_id (x := 4 * (i : Int) + 1) (by omega) (by omega), if_pos (show (0 : Int) ≤ 4 * (i : Int) + 1 ∧ 4 * (i : Int) + 1 < ((160 : Nat) : Int) by omega), show 4 * (i : Int) + 1 = ((4 * i + 1 : Nat) : Int) by omega, Int.toNat_natCast, ek]
  unfold g_X12_swapsOne_60 g_X12_swapsOne_103
  rw [if_pos (show (0 : Int) ≤ (i : Int) ∧ (i : Int) < ((40 : Nat) : Int) by omega), Int.toNat_natCast, if_neg (show ¬ zI Mr 28 i = 0 by omega), p2, w32_id (x := a) (by omega) (by omega)]
  by_cases c5 : a ≤ 9999999
  case neg =>
    rw [if_neg c5, R_out_no h hp c1 hk2 (by omega)]
    simp only [bindS]
    rw [if_neg (show ¬ (0 : Int) ≤ -1 by omega), R_stopb hi]
    exact ACT_no h rfl rfl
  rw [if_pos c5, p1, s1, s3]
  have hs01 : (k : Int) = 0 ∨ (k : Int) = 1 := by omega
  have exk : xk (k : Int) = k := Int.toNat_natCast k
  have mm := hk p hp c1
  have hrz := (W.2.1 p hp c1).2
  have hb : Pbg p po (k : Int) (if (k : Int) = 0 then 0 else 40) 1 := ⟨hp, c1, hs01, Or.inr rfl, by split <;> omega⟩
  have ha : 0 < a ∧ a ≤ 10000000000 := by omega
  obtain ⟨M1, a1, a2⟩ := K_drain1 b78 R (W.mk mm) hp c1 hs01 (MkO_true b78 R hp c1 mm hrz.1 ht.2) ⟨mkN_at mm (by omega), mkN_at mm (by omega)⟩ ha (per := per) (Or.inr ⟨by omega, by omega⟩)
  have hpu := fun s es => swap_pure (s := s) (D := D) W h12 hk hM hD (p := p) (per := per) (l5 p hp c2) hb ha (by omega) es
  have hW := swap_WF W h12 mm hb ha
  have hoth := fun q (hne : q ≠ p) => swap_oth W h12 hk hne hb ha
  have hout := fun s es => R_out RR K W hk ht.2 hp c1 p3 hs01 (amount := a) (by omega) (s := s) es
  rw [exk] at hpu hout
  obtain ⟨_, a3, ⟨a4, a5, a6⟩, a7⟩ := a2
  rw [exk] at a3
  generalize swap (mkN N p) T L p (k : Int) a (if (k : Int) = 0 then 0 else 40) 1 = s at *
  obtain ⟨u1, u2, u3, u4, u5⟩ := hpu s rfl
  obtain ⟨o1, o2, o3⟩ := hout s rfl
  have R1 := a3 per (by omega) rfl
  rw [a1]
  simp only [bindS]
  have z10 : zL (uL M1 9 8 (zL M1 4 11)) 4 10 = s.2.2.1 := by rw [zL_uL, if_neg (by omega)]; exact a4
  have z12 : zL (uL M1 9 8 (zL M1 4 11)) 4 12 = s.2.2.2.1 := by rw [zL_uL, if_neg (by omega)]; exact a6
  rw [z10, z12, a5]
  unfold g_X5_doOut_150 g_X5_doOut_151
  rw [if_pos (Or.inl rfl), if_pos (Or.inr rfl)]
  have F1 : FCA Mc (uL M1 9 8 s.2.2.2.2.1) := (FCA.of4 a7).trans FCA_8
  have HP1 : HP (uL M1 9 8 s.2.2.2.2.1) 78 := HP.same (fun _ _ => rfl) R1.2.2.2.2.2.1
  have hl0 := hW.2
  have bad : ∀ (v : Int) (M2 : MZ), v < 0 → g_X12_out per p k a Mr = some (v, M2) → RepR M2 N T L th pe po → KON M2 → FrO Mr M2 → ACT Mc Mr T th pe po D m per (some (0, uL M1 9 8 s.2.2.2.2.1)) ((g_X12_out per p k a Mr).bind fun q100 => (if 0 ≤ q100.1 then (some ((1 : Int), (uL q100.2 20 45 (zL q100.2 20 31)))) else ((g_X12_stops 5 i q100.2).bind fun q109 => (if (q109.1 = 0 ∨ q109.1 = 1) then (some (q109.1, q109.2)) else none)))) (fz 5 (zI Mr 29 i)) := by
    intro v M2 hv e1 _ K2 F2
    rw [e1]
    simp only [bindS]
    rw [if_neg (by omega), R_stopb hi, (F2.1 29 (by omega) (by omega) (by omega) i).1]
    exact Or.inr ⟨_, _, rfl, rfl, F1, (FRA.ofO F2).trans FRA_10, zI_at _ _ _ _, HP1, K2.u10 _⟩
  by_cases c6 : s.2.2.1 = 0
  case neg =>
    rw [if_neg c6]
    obtain ⟨M2, b1, b2, b3, b4, b5⟩ := o1 (by omega)
    exact bad (-2) M2 (by omega) b1 b2 b3 b4
  rw [if_pos c6]
  by_cases c7 : N (uc T p k per) < s.2.2.2.1
  · rw [if_pos c7]
    obtain ⟨M2, b1, b2, b3, b4, b5⟩ := o2 (by omega) c7
    exact bad (-3) M2 (by omega) b1 b2 b3 b4
  rw [if_neg c7]
  obtain ⟨M2, b1, b2, b3, b4, b5⟩ := o3 (by omega) (by omega)
  obtain ⟨v1, v2, v3, v4⟩ := u5 (by omega) hW.1
  rw [b1]
  simp only [bindS]
  rw [w32_id (x := s.2.2.2.1) (by omega) (by omega), if_pos u1.1, b5]
  refine Or.inl ⟨_, _, rfl, rfl, F1, (FRA.ofO b4).trans FRA_45, ⟨trN s.1 T p k per s.2.2.2.1 s.2.2.2.2.1, s.2.1, ?_⟩, ?_⟩
  · refine h.nx F1 ((FRA.ofO b4).trans FRA_45) (R1.same (fun x h1 h2 => sameH_uL (by omega))) (b2.scL 45 _) (b3.scL (by omega) _) v2 v1 v3 v4 (fun q hq hm => ?_)
    have hne : q ≠ p := fun e => c2 (by rw [← e]; exact hm)
    have ho := hoth q hne
    refine ⟨?_, fun y => by rw [ho.2]; exact Int.le_refl _⟩
    have hper4 : per < 4 := by omega
    rw [trN_at (W.t2 hp c1) hk2, if_neg (by have := uc_r (W.t2 hp c1) (show 1 - k < 2 by omega) hper4; omega), if_neg (by have := uc_r (W.t2 hp c1) hk2 hper4; omega)]
    exact ho.1
  · have e1 : zL (uL M2 20 45 s.2.2.2.2.1) 20 45 = s.2.2.2.2.1 := zL_at _ _ _ _
    have e2 : zL (uL M1 9 8 s.2.2.2.2.1) 9 8 = s.2.2.2.2.1 := zL_at _ _ _ _
    rw [e1, e2]
    exact ⟨rfl, u2⟩
theorem a_add (h : CR Mc Mr N T L th pe po D m per) (hi : i < 40) (hs : RGp Mc Mr i) (hu : AMp Mc Mr i) (hk2 : zI Mr 28 i = 2) {g : Int} (g1 : zL Mc 9 8 = g) (g2 : zL Mr 20 45 = g) (hg : 0 ≤ g ∧ g ≤ 1000000000000) : ACP Mc Mr T th pe po D m per (fun f M => ∀ F : Int → MZ → Option (Unit × MZ), ((g_X5_isLocked (zI Mc (38 + i) 2) Mc).bind fun q183 => (if q183.1 = 0 then ((g_X2_addStake 78 (zI q183.2 9 5) (zI q183.2 (38 + i) 2) (zI q183.2 (38 + i) 4) (zI q183.2 (38 + i) 5) 0 (zI q183.2 (38 + i) 7) q183.2).bind fun q214 => (if q214.1 = (-1) then (F 0 q214.2) else (F 1 q214.2))) else (F 0 q183.2))) = F f M) (g_X12_doesOne i Mr) (fz 5 (zI Mr 29 i)) := by
  have h' := h
  obtain ⟨R, RR, K, W, hM, hk, ht, hD, ⟨p1, p2, p3⟩, ⟨l1, l2, l3⟩, l4, l5⟩ := h'
  obtain ⟨s1, s2, s3, s4, s5, s6⟩ := hs
  obtain ⟨a1, a2⟩ := hu
  obtain ⟨p, ep⟩ := zR_nat s2.1
  rw [ep] at s1 s2
  have hp : p < 5 := by omega
  have e162 : g_X12_doesOne_101 i Mr = some (0, uI Mr 20 10 (fz 5 (zI Mr 29 i))) := by
    unfold g_X12_doesOne_101 g_X12_doesOne_115
    rw [R_stops hi]
    simp only [bindS]
    rw [if_pos trivial, if_pos (Or.inl trivial)]
  have eC : g_X12_doesOne i Mr = ((g_X12_isOpen p Mr).bind fun q53 => (if q53.1 = 0 then (g_X12_doesOne_101 i q53.2) else ((g_X12_adds (zI q53.2 20 43) (zI q53.2 30 (4 * i)) (zI q53.2 30 (4 * i + 1)) (zI q53.2 30 (4 * i + 2)) 0 (zI q53.2 30 (4 * i + 3)) q53.2).bind fun q95 => (if 0 ≤ q95.1 then (g_X12_doesOne_110 q95.2) else (g_X12_doesOne_101 i q95.2))))) := by
    unfold g_X12_doesOne g_X12_doesOne_4
    rw [w32_id (x := 4 * (i : Int)) (by omega) (by omega), w32_id (x := 4 * (i : Int) + 1) (by omega) (by omega), w32_id (x := 4 * (i : Int) + 2) (by omega) (by omega), w32_id (x := 4 * (i : Int) + 3) (by omega) (by omega), if_pos (show (0 : Int) ≤ (i : Int) ∧ (i : Int) < ((40 : Nat) : Int) by omega), Int.toNat_natCast, if_neg (by omega), if_neg (by omega), if_pos hk2, if_pos (show (0 : Int) ≤ 4 * (i : Int) ∧ 4 * (i : Int) < ((160 : Nat) : Int) by omega)]
    simp only [if_pos (show (0 : Int) ≤ 4 * (i : Int) ∧ 4 * (i : Int) < ((160 : Nat) : Int) by omega), if_pos (show (0 : Int) ≤ 4 * (i : Int) + 1 ∧ 4 * (i : Int) + 1 < ((160 : Nat) : Int) by omega), if_pos (show (0 : Int) ≤ 4 * (i : Int) + 2 ∧ 4 * (i : Int) + 2 < ((160 : Nat) : Int) by omega), if_pos (show (0 : Int) ≤ 4 * (i : Int) + 3 ∧ 4 * (i : Int) + 3 < ((160 : Nat) : Int) by omega), show (4 * (i : Int)).toNat = 4 * i by omega, show (4 * (i : Int) + 1).toNat = 4 * i + 1 by omega, show (4 * (i : Int) + 2).toNat = 4 * i + 2 by omega, show (4 * (i : Int) + 3).toNat = 4 * i + 3 by omega, ep]
  rw [eC, R_isOpen h hp]
  simp only [bindS]
  rw [s1]
  have noK : m / 2 ^ p % 2 = 1 → ∀ F : Int → MZ → Option (Unit × MZ), ((g_X5_isLocked p Mc).bind fun q183 => (if q183.1 = 0 then ((g_X2_addStake 78 (zI q183.2 9 5) (zI q183.2 (38 + i) 2) (zI q183.2 (38 + i) 4) (zI q183.2 (38 + i) 5) 0 (zI q183.2 (38 + i) 7) q183.2).bind fun q214 => (if q214.1 = (-1) then (F 0 q214.2) else (F 1 q214.2))) else (F 0 q183.2))) = F 0 Mc := by
    intro c F
    rw [K_isLocked h hp]
    simp only [bindS]
    rw [if_pos c, if_neg (show ¬ (1 : Int) = 0 by omega)]
  by_cases c2 : m / 2 ^ p % 2 = 1
  · rw [if_neg (show ¬ ((p : Int) < po ∧ ¬ (m / 2 ^ p % 2 = 1)) from fun q => q.2 c2), if_pos rfl, e162]
    exact ACP_no h (noK c2) rfl
  obtain ⟨r, M1, M2, N', L', b1, b2, b3, b4, b5, b6, b7, b8, b9, b10, b11, b12, b13, b14⟩ := add_two R RR K W hM hD per p (zI Mr 30 (4 * i + 1)) (zI Mr 30 (4 * i + 2)) 0 (zI Mr 30 (4 * i + 3))
  have yesK : ∀ F : Int → MZ → Option (Unit × MZ), ((g_X5_isLocked p Mc).bind fun q183 => (if q183.1 = 0 then ((g_X2_addStake 78 (zI q183.2 9 5) (zI q183.2 (38 + i) 2) (zI q183.2 (38 + i) 4) (zI q183.2 (38 + i) 5) 0 (zI q183.2 (38 + i) 7) q183.2).bind fun q214 => (if q214.1 = (-1) then (F 0 q214.2) else (F 1 q214.2))) else (F 0 q183.2))) = if r = -1 then F 0 M1 else F 1 M1 := by
    intro F
    rw [K_isLocked h hp]
    simp only [bindS]
    rw [if_neg c2, if_pos (show (0 : Int) = 0 from rfl), p1, s1, s3, s5, a1, b1]
    simp only [bindS]
  have H1 : CR M1 M2 N' T L' th pe po D m per := h.nx (FCA.ofB b3) (FRA.of23 b4) b5 b6 (K.f23 b4) b7 b8 (fun q hq5 hqo => Mrk_cg (b10 0 (by omega)) (fun w w1 w2 => b11 q w w1 (Or.inr w2)) (hk q hq5 hqo)) (b10 0 (by omega)) (fun q hq hm => ⟨b11 q 1 (by omega) (Or.inl (by omega)), fun y => b13 q y⟩)
  by_cases c1 : (p : Int) < po
  case neg =>
    rw [if_neg (show ¬ ((p : Int) < po ∧ ¬ (m / 2 ^ p % 2 = 1)) from fun q => c1 q.1), if_pos rfl, e162]
    have hr : r = -1 := by
      by_cases c : r = -1
      · exact c
      · have := b14 c; omega
    rw [hr] at yesK
    exact Or.inr ⟨M1, _, fun F => by rw [yesK F, if_pos rfl], rfl, FCA.ofB b3, FRA_10, zI_at _ _ _ _, b5.2.2.2.2.2.1, K.u10 _⟩
  rw [if_pos (show (p : Int) < po ∧ ¬ (m / 2 ^ p % 2 = 1) from ⟨c1, c2⟩), if_neg (show ¬ (1 : Int) = 0 by omega), p2, ep, b2]
  simp only [bindS]
  by_cases c3 : r = -1
  · have e29 : zI M2 29 i = zI Mr 29 i := (b4 29 (by omega) i).1
    have e162' : g_X12_doesOne_101 i M2 = some (0, uI M2 20 10 (fz 5 (zI Mr 29 i))) := by
      unfold g_X12_doesOne_101 g_X12_doesOne_115
      rw [R_stops hi, e29]
      simp only [bindS]
      rw [if_pos trivial, if_pos (Or.inl trivial)]
    rw [if_neg (by omega), e162']
    exact Or.inr ⟨M1, _, fun F => by rw [yesK F, if_pos c3], rfl, FCA.ofB b3, (FRA.of23 b4).trans FRA_10, zI_at _ _ _ _, b5.2.2.2.2.2.1, (K.f23 b4).u10 _⟩
  · rw [if_pos (by omega)]
    unfold g_X12_doesOne_110 g_X12_doesOne_115
    rw [if_pos (Or.inr rfl)]
    refine Or.inl ⟨M1, M2, fun F => by rw [yesK F, if_neg c3], rfl, FCA.ofB b3, FRA.of23 b4, ⟨N', L', H1⟩, ?_⟩
    rw [(b4 20 (by omega) 45).2.1, (b3 9 (by omega) 8).2.1, g1, g2]
    exact ⟨rfl, hg⟩
theorem a_drop (h : CR Mc Mr N T L th pe po D m per) (hi : i < 40) (hs : RGp Mc Mr i) {g : Int} (g1 : zL Mc 9 8 = g) (g2 : zL Mr 20 45 = g) (hg : 0 ≤ g ∧ g ≤ 1000000000000) : ACT Mc Mr T th pe po D m per (g_X5_doDrop (38 + i) Mc) (g_X12_dropsOne i Mr) (fz 5 (zI Mr 29 i)) := by
  have h' := h
  obtain ⟨R, RR, K, W, hM, hk, ht, hD, ⟨p1, p2, p3⟩, ⟨l1, l2, l3⟩, l4, l5⟩ := h'
  have h12 := R.2.2.2.2.2.2
  obtain ⟨s1, s2, s3, s4, s5, s6⟩ := hs
  obtain ⟨p, ep⟩ := zR_nat s2.1
  rw [ep] at s1 s2
  have hp : p < 5 := by omega
  have eC : g_X12_dropsOne i Mr = ((g_X12_isOpen p Mr).bind fun q11 => (if q11.1 = 0 then (g_X12_dropsOne_51 i (-1) q11.2) else ((g_X12_stakeOf (zI q11.2 20 43) p (zI q11.2 30 (4 * i + 1)) (zI q11.2 30 (4 * i + 2)) 0 q11.2).bind fun q44 => (g_X12_dropsOne_51 i q44.1 q44.2)))) := by
    unfold g_X12_dropsOne g_X12_dropsOne_9
    rw [w32_id (x := 4 * (i : Int)) (by omega) (by omega), w32_id (x := 4 * (i : Int) + 1) (by omega) (by omega), w32_id (x := 4 * (i : Int) + 2) (by omega) (by omega), if_pos (show (0 : Int) ≤ 4 * (i : Int) ∧ 4 * (i : Int) < ((160 : Nat) : Int) by omega)]
    simp only [if_pos (show (0 : Int) ≤ 4 * (i : Int) + 1 ∧ 4 * (i : Int) + 1 < ((160 : Nat) : Int) by omega), if_pos (show (0 : Int) ≤ 4 * (i : Int) + 2 ∧ 4 * (i : Int) + 2 < ((160 : Nat) : Int) by omega), show (4 * (i : Int)).toNat = 4 * i by omega, show (4 * (i : Int) + 1).toNat = 4 * i + 1 by omega, show (4 * (i : Int) + 2).toNat = 4 * i + 2 by omega, ep]
  have e51 : g_X12_dropsOne_51 i (-1) Mr = some (0, uI Mr 20 10 (fz 5 (zI Mr 29 i))) := by
    unfold g_X12_dropsOne_51
    rw [if_neg (by omega), R_stopb hi]
  rw [eC, R_isOpen h hp]
  simp only [bindS]
  unfold g_X5_doDrop g_X5_doDrop_49
  rw [if_pos (kdt i hi), p1, s1, s3, s5, K_find b78 R]
  simp only [bindS]
  have hfind : g_X12_stakeOf (zI Mr 20 43) p (zI Mr 30 (4 * i + 1)) (zI Mr 30 (4 * i + 2)) 0 Mr = some (fnd L per p (zI Mr 30 (4 * i + 1)) (zI Mr 30 (4 * i + 2)) 0, Mr) := by rw [p2]; exact R_find RR per p _ _ 0
  rcases fnd_r L per p (zI Mr 30 (4 * i + 1)) (zI Mr 30 (4 * i + 2)) 0 with hf | ⟨j, hj, hf, e0, e1, e2, e3, e4⟩
  · rw [hf, K_stakeAt_n b78 (by omega), hfind, hf]
    simp only [bindS]
    rw [if_pos trivial, e51, ite_self]
    exact ACT_no h rfl rfl
  have hok := W.2.2 _ (getD_mem hj)
  have c1 : (p : Int) < po := by rw [← e1]; exact hok.2.1.2
  have hkd := R.2.2.2.2.2.1.kd b78 (show j < 12 by omega)
  have hne : zR Mc (78 + 3) j ≠ 0 := by have := R.2.2.2.2.2.1.rng (show j < 12 by omega); omega
  rw [hf, K_stakeAt_y b78 (by omega) (by rw [R.1.2.2.2.1]; omega)]
  simp only [bindS]
  rw [if_neg hne, s1, K_isLocked h hp]
  simp only [bindS]
  by_cases c2 : m / 2 ^ p % 2 = 1
  · rw [if_pos c2, if_neg (show ¬ (1 : Int) = 0 by omega), if_neg (show ¬ ((p : Int) < po ∧ ¬ (m / 2 ^ p % 2 = 1)) from fun q => q.2 c2), if_pos (show (0 : Int) = 0 from rfl), e51]
    exact ACT_no h rfl rfl
  have h5 := hok.2.2.2.2.1
  rw [if_neg c2, if_pos (show (0 : Int) = 0 from rfl), if_pos (show (p : Int) < po ∧ ¬ (m / 2 ^ p % 2 = 1) from ⟨c1, c2⟩), if_neg (show ¬ (1 : Int) = 0 by omega), if_pos hkd, K_sI R hj (w := 5) (by omega), hfind, hf]
  simp only [bindS]
  unfold g_X12_dropsOne_51
  have es : g_X12_ofStake j 5 Mr = some (L.getD j d0 5, Mr) := R_stk RR hj (by omega) (by omega)
  rw [if_pos (show (0 : Int) ≤ (j : Int) by omega), es]
  simp only [bindS]
  obtain ⟨M1, b1, R1, F1⟩ := K_withdraw b78 R W hj h5.1 (Int.le_refl _)
  obtain ⟨M2, b2, R2, F2⟩ := R_takesOut RR K W hj h5.1 (Int.le_refl _)
  have ep' : (L.getD j d0 1).toNat = p := by rw [e1, Int.toNat_natCast]
  obtain ⟨m1, m2, m3, m4⟩ := take_money W hM hD hj h5.1 (Int.le_refl _) (by rw [ep']; exact l5 p hp c2)
  rw [b1, b2]
  simp only [bindS]
  refine Or.inl ⟨M1, M2, rfl, rfl, FCA.ofB F1, FRA.of23 F2, ⟨_, _, h.nx (FCA.ofB F1) (FRA.of23 F2) R1 R2 (K.f23 F2) m2 m1 (fun q hq5 hqo => Mrk_cg (m3 0 (by omega)) (fun w w1 w2 => m4 q w w1 (Or.inr w2)) (hk q hq5 hqo)) (m3 0 (by omega)) (fun q hq hm => ⟨m4 q 1 (by omega) (Or.inl (by omega)), fun y => ?_⟩)⟩, ?_⟩
  · have hne2 : q ≠ p := fun e => c2 (by rw [← e]; exact hm)
    unfold tkL
    rw [if_neg (by omega), dep_erase L j hj (by rw [e1]; omega)]
    exact Int.le_refl _
  · rw [(F2 20 (by omega) 45).2.1, (F1 9 (by omega) 8).2.1, g1, g2]
    exact ⟨rfl, hg⟩
theorem a_least (h : CR Mc Mr N T L th pe po D m per) (hi : i < 40) (hs : LEp Mc Mr i) (hk4 : zI Mr 28 i = 4) {g : Int} (g1 : zL Mc 9 8 = g) (g2 : zL Mr 20 45 = g) (hg : 0 ≤ g ∧ g ≤ 1000000000000) : ACP Mc Mr T th pe po D m per (fun f M => ∀ F : Int → MZ → Option (Unit × MZ), ((g_X2_hasThing 78 (zI Mc (38 + i) 6) Mc).bind fun q247 => (if q247.1 = 0 then (F 0 q247.2) else ((g_X2_purseOf 78 (zI q247.2 9 5) (zI q247.2 (38 + i) 6) q247.2).bind fun q265 => (if q265.1 < (zI q265.2 (38 + i) 7) then (F 0 q265.2) else (F 1 q265.2))))) = F f M) (g_X12_doesOne i Mr) (fz 5 (zI Mr 29 i)) := by
  have h' := h
  obtain ⟨R, RR, K, W, hM, hk, ht, hD, ⟨p1, p2, p3⟩, ⟨l1, l2, l3⟩, l4, l5⟩ := h'
  have hpe := W.1.r
  obtain ⟨s1, s2, s3, s4⟩ := hs
  obtain ⟨t, et⟩ := zR_nat s2.1
  rw [et] at s1 s2
  have e162 : g_X12_doesOne_162 i Mr = some (0, uI Mr 20 10 (fz 5 (zI Mr 29 i))) := by
    unfold g_X12_doesOne_162 g_X12_doesOne_176
    rw [R_stops hi]
    simp only [bindS]
    rw [if_pos trivial, if_pos (Or.inl trivial)]
  have eC : g_X12_doesOne i Mr = ((g_X12_isThing t Mr).bind fun q129 => (if q129.1 = 0 then (g_X12_doesOne_162 i q129.2) else ((g_X12_inPurse (zI q129.2 20 43) (zI q129.2 30 (4 * i)) q129.2).bind fun q146 => (if (zI q146.2 30 (4 * i + 1)) ≤ q146.1 then (g_X12_doesOne_171 q146.2) else (g_X12_doesOne_162 i q146.2))))) := by
    unfold g_X12_doesOne g_X12_doesOne_4
    rw [w32_id (x := 4 * (i : Int)) (by omega) (by omega), w32_id (x := 4 * (i : Int) + 1) (by omega) (by omega), if_pos (show (0 : Int) ≤ (i : Int) ∧ (i : Int) < ((40 : Nat) : Int) by omega), Int.toNat_natCast, if_neg (by omega), if_neg (by omega), if_neg (by omega), if_neg (by omega), if_pos (show (0 : Int) ≤ 4 * (i : Int) ∧ 4 * (i : Int) < ((160 : Nat) : Int) by omega)]
    simp only [if_pos (show (0 : Int) ≤ 4 * (i : Int) ∧ 4 * (i : Int) < ((160 : Nat) : Int) by omega), if_pos (show (0 : Int) ≤ 4 * (i : Int) + 1 ∧ 4 * (i : Int) + 1 < ((160 : Nat) : Int) by omega), show (4 * (i : Int)).toNat = 4 * i by omega, show (4 * (i : Int) + 1).toNat = 4 * i + 1 by omega, et]
  rw [eC, R_isThing, RR.1.1]
  simp only [bindS, bI_0]
  have eK : ∀ F : Int → MZ → Option (Unit × MZ), ((g_X2_hasThing 78 (zI Mc (38 + i) 6) Mc).bind fun q247 => (if q247.1 = 0 then (F 0 q247.2) else ((g_X2_purseOf 78 (zI q247.2 9 5) (zI q247.2 (38 + i) 6) q247.2).bind fun q265 => (if q265.1 < (zI q265.2 (38 + i) 7) then (F 0 q265.2) else (F 1 q265.2))))) = if ¬ (0 ≤ (t : Int) ∧ (t : Int) < th) then F 0 Mc else if N (2 + (5 * per + t)) < zI Mr 30 (4 * i + 1) then F 0 Mc else F 1 Mc := by
    intro F
    rw [s1, K_hasThing b78, R.1.1]
    simp only [bindS, bI_0]
    rw [s1, p1, w32_purse b78 R hM (by omega) (by omega)]
    simp only [bindS]
    rw [s3]
  by_cases c : 0 ≤ (t : Int) ∧ (t : Int) < th
  case neg =>
    rw [if_pos c, e162]
    exact ACP_no h (fun F => by rw [eK F, if_pos c]) rfl
  rw [if_neg (show ¬ ¬ (0 ≤ (t : Int) ∧ (t : Int) < th) from fun q => q c), p2, et, R_inPurse (by omega) (by omega), RR.2.2.1 _ (by omega)]
  simp only [bindS]
  by_cases c3 : zI Mr 30 (4 * i + 1) ≤ N (2 + (5 * per + t))
  · rw [if_pos c3]
    unfold g_X12_doesOne_171 g_X12_doesOne_176
    rw [if_pos (Or.inr rfl)]
    exact Or.inl ⟨Mc, Mr, fun F => by rw [eK F, if_neg (fun q => q c), if_neg (by omega)], rfl, FCA.rfl, FRA.rfl, ⟨N, L, h⟩, by rw [g1, g2]; exact ⟨rfl, hg⟩⟩
  · rw [if_neg c3, e162]
    exact ACP_no h (fun F => by rw [eK F, if_neg (fun q => q c), if_pos (by omega)]) rfl
end AC2
