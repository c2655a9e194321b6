/-! route -/
theorem RepR.f20 {M M' : MZ} {N T : Nat → Int} {L : List (Nat → Int)} {th pe po : Int} (R : RepR M N T L th pe po) (h1 : ∀ x, x = 22 ∨ x = 23 → sameH M M' x) (h2 : ∀ k, k < 4 → zI M' 20 k = zI M 20 k) : RepR M' N T L th pe po := by
  obtain ⟨⟨a0, a1, a2⟩, hT, hN, hn, hL, h12⟩ := R
  have s22 := h1 22 (by omega)
  have s23 := h1 23 (by omega)
  exact ⟨⟨by rw [h2 1 (by omega)]; exact a0, by rw [h2 2 (by omega)]; exact a1, by rw [h2 3 (by omega)]; exact a2⟩, fun j hj => by rw [(s22 j).1]; exact hT j hj, fun j hj => by rw [(s23 j).2.1]; exact hN j hj, by rw [(s23 137).2.1]; exact hn, fun i hi w hw => by rw [(s23 _).2.1]; exact hL i hi w hw, h12⟩
theorem KON.f20 {M M' : MZ} (K : KON M) (h1 : ∀ x, x = 21 ∨ x = 33 → sameH M M' x) (h2 : ∀ k, k < 29 → zL M' 20 k = zL M 20 k) : KON M' :=
  ⟨fun j hj => by rw [(h1 21 (by omega) j).2.1]; exact K.1 j hj, fun j a c => by rw [h2 j (by omega)]; exact K.2.1 j a c, fun j hj => by rw [(h1 33 (by omega) j).2.1]; exact K.2.2 j hj⟩
/-- what looking for a way leaves alone in the reference -/
def FrP (M M' : MZ) : Prop := (∀ x, x ≠ 20 → x ≠ 23 → x ≠ 24 → sameH M M' x) ∧ (∀ k, k ≠ 33 → k ≠ 52 → zI M' 20 k = zI M 20 k) ∧ (∀ k, k < 29 ∨ 32 < k → k ≠ 51 → zL M' 20 k = zL M 20 k) ∧ (∀ k, 258 ≤ k → zL M' 24 k = zL M 24 k)
theorem FrP.ofO {M M' : MZ} (h : FrO M M') : FrP M M' := ⟨h.1, fun k a _ => h.2.1 k a, fun k a _ => h.2.2.1 k a, h.2.2.2⟩
theorem FrP.trans {M M' M'' : MZ} (a : FrP M M') (b : FrP M' M'') : FrP M M'' := ⟨fun x h1 h2 h3 => (a.1 x h1 h2 h3).trans (b.1 x h1 h2 h3), fun k hk h2 => (b.2.1 k hk h2).trans (a.2.1 k hk h2), fun k hk h2 => (b.2.2.1 k hk h2).trans (a.2.2.1 k hk h2), fun k hk => (b.2.2.2 k hk).trans (a.2.2.2 k hk)⟩
theorem FrP.rfl {M : MZ} : FrP M M := ⟨fun _ _ _ _ => sameH.rfl, fun _ _ _ => Eq.refl _, fun _ _ _ => Eq.refl _, fun _ _ => Eq.refl _⟩
theorem FrP.w {M : MZ} (v : Int) (r : Int) : FrP M (uI (uL M 20 51 v) 20 52 r) := ⟨fun x h1 _ _ => (sameH_uL h1).trans (sameH_uI h1), fun k _ h2 => by rw [zI_uI, if_neg (fun q => h2 q.2)]; rfl, fun k _ h2 => by rw [zL_uI, zL_uL, if_neg (fun q => h2 q.2)], fun k _ => by rw [zL_uI, zL_uL, if_neg (by omega)]⟩
section RT
variable {M : MZ} {b : Nat} {kk : Bool} {N T : Nat → Int} {L : List (Nat → Int)} {th pe po fr to a : Int}
theorem K_search (hb : bOK b) (R : Rep kk M b N T L th pe po) (W : WF N T L th pe po) (hfr : 0 ≤ fr ∧ fr < 5) (hto : 0 ≤ to) (ha : 0 < a ∧ a ≤ 9999999) {s : BT} (hB : BS M s) : ∃ M', g_X1_search b fr to a M = some ((), M') ∧ BS M' ((dfs 3 0 0).foldl (stp a (Vr N T L po fr to a)) s) ∧ (∀ x, x ≠ 4 → ¬ (14 ≤ x ∧ x < 20) → sameH M M' x) := by
  have hbb : b = 78 ∨ b = 143 := hb
  obtain ⟨f, rfl⟩ : ∃ n : Nat, fr = n := ⟨fr.toNat, by omega⟩
  have F0 : ∀ x, x ≠ 17 → x ≠ 18 → x ≠ 19 → sameH M (uI (uL (uI M 17 0 f) 18 0 a) 19 0 0) x := fun x h1 h2 h3 => ((sameH_uI h1).trans (sameH_uL h2)).trans (sameH_uI h3)
  have e17 : zI (uI (uL (uI M 17 0 f) 18 0 a) 19 0 0) 17 0 = f := rfl
  have e18 : zL (uI (uL (uI M 17 0 f) 18 0 a) 19 0 0) 18 0 = a := rfl
  have e19 : zI (uI (uL (uI M 17 0 f) 18 0 a) 19 0 0) 19 0 = ((0 : Nat) : Int) := rfl
  unfold g_X1_search g_X1_search_26
  generalize uI (uL (uI M 17 0 f) 18 0 a) 19 0 0 = M0 at *
  have R0 : Rep kk M0 b N T L th pe po := R.same (fun h h1 h2 => F0 h (by omega) (by omega) (by omega))
  have B0 : BS M0 s := by
    obtain ⟨b1, b2, b3, b4, b5⟩ := hB
    exact ⟨(F0 14 (by omega) (by omega) (by omega) 0).2.1.trans b1, (F0 14 (by omega) (by omega) (by omega) 1).1.trans b2, (F0 14 (by omega) (by omega) (by omega) 2).1.trans b3, b4, fun j hj => (F0 15 (by omega) (by omega) (by omega) j).1.trans (b5 j hj)⟩
  have D0 : DS M0 0 0 f a (2 ^ f) 0 := by
    refine ⟨Or.inl ⟨rfl, rfl⟩, fun j hj => by omega, e17, e18, ⟨p2_lt f (by omega), by omega⟩, fun x hx => (mk_has1 f (by omega) x hx).trans ⟨?_, ?_⟩, fun x hx => ⟨fun w => ?_, ?_⟩, by omega⟩
    · intro w; exact ⟨0, by omega, by rw [e17, w]⟩
    · rintro ⟨j, w1, w2⟩
      obtain rfl : j = 0 := by omega
      rw [e17] at w2
      omega
    · rw [Nat.zero_div] at w; omega
    · rintro ⟨j, w1, _⟩; omega
  have hP := PV_0 N T L po f to a
  rw [Int.toNat_natCast] at hP
  have h1 : cst 3 5 = 186 := rfl
  obtain ⟨y, M', y1, y2, y3, y4⟩ := K_lev hb W R.2.2.2.2.2.2 hto ha 3 5 0 100000 0 0 0 f a (2 ^ f) 0 M0 s (by omega) (by omega) (by omega) R0 D0 hP B0 e19 (by omega) (by omega)
  refine ⟨M', ?_, y3, fun x h1 h2 => (F0 x (by omega) (by omega) (by omega)).trans (y4.1 x h1 h2)⟩
  rw [show ((0 : Nat) : Int) = 0 from rfl] at y2
  rw [y2]
  obtain ⟨g, hg⟩ : ∃ g, 100000 - y = g + 1 := ⟨100000 - y - 1, by omega⟩
  rw [hg]
  have e : g_X1_search_29 (g + 1) b to a (0 + -1) ((0 + y : Nat) : Int) M' = g_X1_search_29B (g_X1_search_29 g) b to a (0 + -1) ((0 + y : Nat) : Int) M' := rfl
  rw [e]
  unfold g_X1_search_29B g_X1_search_233
  rw [if_neg (by omega), if_pos (by omega)]
theorem R_routes_loop (W : WF N T L th pe po) (hfr : 0 ≤ fr ∧ fr < 5) (ha : 0 < a ∧ a ≤ 9999999) {s0 : BT} : ∀ (m r f : Nat) (M : MZ) (s : BT), r + m = 216 → 1 ≤ r → m < f → RepR M N T L th pe po → KON M → zL M 20 51 = s.1 + a → zI M 20 52 = (s.2.2 : Int) → Bst a (Vr N T L po fr to a) s0 s (fun x => 1 ≤ x ∧ x < r) → ∃ M' s', g_X12_routes_13 f fr to a r M = some ((), M') ∧ zL M' 20 51 = s'.1 + a ∧ zI M' 20 52 = (s'.2.2 : Int) ∧ Bst a (Vr N T L po fr to a) s0 s' (fun x => 1 ≤ x ∧ x < 216) ∧ RepR M' N T L th pe po ∧ KON M' ∧ FrP M M' := by
  intro m
  induction m with
  | zero =>
    intro r f M s hr h1 hf R K e1 e2 hB
    obtain ⟨f, rfl⟩ : ∃ g, f = g + 1 := ⟨f - 1, by omega⟩
    obtain rfl : r = 216 := by omega
    have e : g_X12_routes_13 (f + 1) fr to a (216 : Nat) M = g_X12_routes_13B (g_X12_routes_13 f) fr to a (216 : Nat) M := rfl
    rw [e]
    unfold g_X12_routes_13B
    rw [if_pos (by omega)]
    exact ⟨M, s, rfl, e1, e2, hB, R, K, FrP.rfl⟩
  | succ m ih =>
    intro r f M s hr h1 hf R K e1 e2 hB
    obtain ⟨f, rfl⟩ : ∃ g, f = g + 1 := ⟨f - 1, by omega⟩
    have e : g_X12_routes_13 (f + 1) fr to a r M = g_X12_routes_13B (g_X12_routes_13 f) fr to a r M := rfl
    rw [e]
    unfold g_X12_routes_13B
    rw [if_neg (by omega)]
    obtain ⟨M1, a1, a2, a3, a4⟩ := R_along R K W (r := r) (by omega) (to := to) hfr ha
    have hv := Vr_r (r := r) W R.2.2.2.2.2 fr to ha
    rw [a1]
    simp only [bindS]
    have hq := Bst_q hB h1
    unfold stq at hq
    have f51 : zL M1 20 51 = s.1 + a := (a4.2.2.1 51 (by omega)).trans e1
    have f52 : zI M1 20 52 = (s.2.2 : Int) := (a4.2.1 52 (by omega)).trans e2
    rw [f51]
    unfold g_X12_routes_57
    rw [w32_id (by omega) (by omega), show (r : Int) + 1 = ((r + 1 : Nat) : Int) by omega]
    by_cases c : s.1 + a < Vr N T L po fr to a r
    · rw [if_pos c]
      rw [if_pos (show s.1 < Vr N T L po fr to a r - a by omega)] at hq
      have FW := FrP.w (M := M1) (Vr N T L po fr to a r) (r : Int)
      obtain ⟨M', s', g1, g2, g3, g4, g5, g6, g7⟩ := ih (r + 1) f (uI (uL M1 20 51 (Vr N T L po fr to a r)) 20 52 r) (Vr N T L po fr to a r - a, a, r) (by omega) (by omega) (by omega) (a2.f20 (fun x hx => (sameH_uL (by omega)).trans (sameH_uI (by omega))) (fun k hk => FW.2.1 k (by omega) (by omega))) (a3.f20 (fun x hx => (sameH_uL (by omega)).trans (sameH_uI (by omega))) (fun k hk => FW.2.2.1 k (by omega) (by omega))) (by rw [zL_uI, zL_at]; show _ = Vr N T L po fr to a r - a + a; omega) (by rw [zI_at]) hq
      exact ⟨M', s', g1, g2, g3, g4, g5, g6, ((FrP.ofO a4).trans FW).trans g7⟩
    · rw [if_neg c]
      rw [if_neg (show ¬ s.1 < Vr N T L po fr to a r - a by omega)] at hq
      obtain ⟨M', s', g1, g2, g3, g4, g5, g6, g7⟩ := ih (r + 1) f M1 s (by omega) (by omega) (by omega) a2 a3 f51 f52 hq
      exact ⟨M', s', g1, g2, g3, g4, g5, g6, (FrP.ofO a4).trans g7⟩
/-- the row found -/
def best (N T : Nat → Int) (L : List (Nat → Int)) (po fr to a : Int) : BT := (dfs 3 0 0).foldl (stp a (Vr N T L po fr to a)) (-a, 0, 0)
theorem Vr_0 {r : Nat} (h : ∃ k, k < rlen r ∧ dg r k = 0) : Vr N T L po fr to a r = 0 := by
  unfold Vr
  rw [if_neg]
  intro hc
  obtain ⟨k, h1, h2⟩ := h
  exact (chk_d _ _ _ _ (by omega) hc k (by omega) h1).1 h2
theorem Bst_dfs {s0 : BT} (h0 : -a ≤ s0.1) (hm : s0.2.1 ≠ a) : Bst a (Vr N T L po fr to a) s0 ((dfs 3 0 0).foldl (stp a (Vr N T L po fr to a)) s0) (· ∈ dfs 3 0 0) := Bst_fold h0 hm (dfs 3 0 0) [] s0 (Or.inl ⟨rfl, fun r hr => absurd hr List.not_mem_nil⟩) dfs_pw (fun x hx => (dfs_ge x hx).1)
theorem best_q (ha : 0 < a) {s : BT} (h : Bst a (Vr N T L po fr to a) (-a, 0, 0) s (fun x => 1 ≤ x ∧ x < 216)) : s = best N T L po fr to a := by
  refine Bst_uniq (Int.le_refl _) h (Bst_dfs (Int.le_refl _) (by show (0 : Int) ≠ a; omega)) (fun r hr => ?_) (fun r hr => Or.inl (dfs_ge r hr))
  rcases dfs_all r hr.2 with g | g | g
  · exact Or.inl g
  · omega
  · exact Or.inr (by rw [Vr_0 g]; omega)
theorem best_r (W : WF N T L th pe po) (h12 : L.length ≤ 12) (ha : 0 < a ∧ a ≤ 9999999) : (best N T L po fr to a).2.2 < 216 ∧ (0 ≤ (best N T L po fr to a).1 + a ∧ (best N T L po fr to a).1 + a ≤ 9000000000) ∧ ((best N T L po fr to a).1 + a = 0 ↔ (best N T L po fr to a).2.2 = 0) := by
  have h : Bst a (Vr N T L po fr to a) (-a, 0, 0) (best N T L po fr to a) _ := Bst_dfs (Int.le_refl _) (by show (0 : Int) ≠ a; omega)
  rcases h with ⟨e, _⟩ | ⟨x, e1, e2, e3, _⟩
  · rw [e]
    exact ⟨by show (0 : Nat) < 216; omega, by show 0 ≤ -a + a ∧ -a + a ≤ 9000000000; omega, by show -a + a = 0 ↔ (0 : Nat) = 0; omega⟩
  · have hv := Vr_r (r := x) W h12 fr to ha
    have hx := dfs_ge x e1
    have e3' : -a < Vr N T L po fr to a x - a := e3
    rw [e2]
    refine ⟨hx.2, ?_, ?_⟩
    · show 0 ≤ Vr N T L po fr to a x - a + a ∧ Vr N T L po fr to a x - a + a ≤ 9000000000
      omega
    · show Vr N T L po fr to a x - a + a = 0 ↔ x = 0
      omega
theorem R_routes (R : RepR M N T L th pe po) (K : KON M) (W : WF N T L th pe po) (hfr : 0 ≤ fr ∧ fr < 5) (ha : 0 < a ∧ a ≤ 9999999) : ∃ M', g_X12_routes fr to a M = some ((), M') ∧ zL M' 20 51 = (best N T L po fr to a).1 + a ∧ zI M' 20 52 = ((best N T L po fr to a).2.2 : Int) ∧ RepR M' N T L th pe po ∧ KON M' ∧ FrP M M' := by
  have FW := FrP.w (M := M) 0 0
  obtain ⟨M', s', g1, g2, g3, g4, g5, g6, g7⟩ := R_routes_loop (to := to) (s0 := (-a, 0, 0)) W hfr ha 215 1 100000 (uI (uL M 20 51 0) 20 52 0) (-a, 0, 0) (by omega) (by omega) (by omega) (R.f20 (fun x hx => (sameH_uL (by omega)).trans (sameH_uI (by omega))) (fun k hk => FW.2.1 k (by omega) (by omega))) (K.f20 (fun x hx => (sameH_uL (by omega)).trans (sameH_uI (by omega))) (fun k hk => FW.2.2.1 k (by omega) (by omega))) (by rw [zL_uI, zL_at]; show (0 : Int) = -a + a; omega) (by rw [zI_at]; rfl) (Or.inl ⟨rfl, fun r hr => by omega⟩)
  rw [best_q ha.1 g4] at g2 g3
  exact ⟨M', g1, g2, g3, g5, g6, FW.trans g7⟩
theorem K_canWander (R : Rep kk M 78 N T L th pe po) (fr to a : Int) : g_X11_canWander fr to a M = some (bI (((0 ≤ fr ∧ fr < th) ∧ (0 ≤ to ∧ to < th) ∧ fr ≠ to) ∧ (1 ≤ a ∧ a ≤ 9999999)), M) := by
  unfold g_X11_canWander g_X11_canWander_38 g_X11_canWander_39
  rw [K_hasThing b78, R.1.1]
  simp only [bindS, bI_0]
  rw [K_hasThing b78, R.1.1]
  simp only [bindS, bI_0]
  rw [K_isAmount]
  simp only [bindS, bI_0]
  unfold bI
  by_cases c1 : 0 ≤ fr ∧ fr < th
  · by_cases c2 : 0 ≤ to ∧ to < th
    · by_cases c3 : fr = to
      · simp [c1, c2, c3]
      · by_cases c4 : 1 ≤ a ∧ a ≤ 9999999
        · simp [c1, c2, c3, c4]
        · simp [c1, c2, c3, c4]
    · simp [c1, c2]
  · simp [c1]
theorem R_isWay (R : RepR M N T L th pe po) (fr to a : Int) : g_X12_isWay fr to a M = some (bI (((0 ≤ fr ∧ fr < th) ∧ (0 ≤ to ∧ to < th) ∧ fr ≠ to) ∧ (1 ≤ a ∧ a ≤ 9999999)), M) := by
  unfold g_X12_isWay g_X12_isWay_37 g_X12_isWay_38
  rw [R_isThing, R.1.1]
  simp only [bindS, bI_0]
  rw [R_isThing, R.1.1]
  simp only [bindS, bI_0]
  rw [R_isIn]
  simp only [bindS, bI_0]
  unfold bI
  by_cases c1 : 0 ≤ fr ∧ fr < th
  · by_cases c2 : 0 ≤ to ∧ to < th
    · by_cases c3 : fr = to
      · simp [c1, c2, c3]
      · by_cases c4 : 1 ≤ a ∧ a ≤ 9999999
        · simp [c1, c2, c3, c4]
        · simp [c1, c2, c3, c4]
    · simp [c1, c2]
  · simp [c1]
/-- a pool of the best row -/
theorem K_bestPool {s : BT} (hB : BS M s) {i : Int} (hi : 0 ≤ i ∧ i < 3) (h0 : s.2.2 ≠ 0) : g_X1_bestPool i M = some (if (rlen s.2.2 : Int) ≤ i then -2 else rpl s.2.2 i.toNat, M) := by
  obtain ⟨b1, b2, b3, b4, b5⟩ := hB
  have erl : rl s.2.2 = rlen s.2.2 := if_neg h0
  rw [erl] at b3 b5
  unfold g_X1_bestPool g_X1_bestPool_30 g_X1_bestPool_32
  rw [b3, if_neg (by omega)]
  by_cases c : (rlen s.2.2 : Int) ≤ i
  · rw [if_pos c, if_pos c]
  · rw [if_neg c, if_neg c, if_neg (by omega), if_pos (by omega), b5 _ (by omega)]
    rfl
theorem q_route {M : MZ} (h : IV M) (fr to a w : Int) : ∃ r M1 M2, g_X11_route fr to a w M = some (r, M1) ∧ g_X12_route fr to a w M1 = some (r, M2) ∧ IV M2 := by
  have h0 := h
  obtain ⟨N, T, L, th, pe, po, R, RR, W, hM, hk, ht, hH, K, hA⟩ := h
  have hpe := W.1.r
  have h12 := R.2.2.2.2.2.2
  unfold g_X11_route g_X11_route_21
  rw [K_canWander R]
  simp only [bindS, bI_0]
  by_cases hw : ((0 ≤ fr ∧ fr < th) ∧ (0 ≤ to ∧ to < th) ∧ fr ≠ to) ∧ (1 ≤ a ∧ a ≤ 9999999)
  case neg =>
    rw [if_pos hw]
    refine ⟨_, M, M, rfl, ?_, h0⟩
    unfold g_X12_route g_X12_route_23
    rw [R_isWay RR]
    simp only [bindS, bI_0]
    rw [if_pos hw]
  case pos =>
    rw [if_neg (fun q => q hw)]
    by_cases hi : 0 ≤ w ∧ w ≤ 4
    case neg =>
      have e : (if w < 0 then some ((-1 : Int), M) else if w ≤ 4 then ((g_X1_forget (w32 (-a)) M).bind fun q29 => ((g_X1_search 78 fr to a q29.2).bind fun q43 => (if (zI q43.2 14 2) = 0 then (some ((-2), q43.2)) else (if w = 0 then (some ((w32 (w64 ((zL q43.2 14 0) + a))), q43.2)) else (if w = 1 then (some ((zI q43.2 14 2), q43.2)) else ((g_X1_bestPool (w32 (w - 2)) q43.2).bind fun q116 => (some (q116.1, q116.2)))))))) else some (-1, M)) = some (-1, M) := by
        by_cases c : w < 0
        · rw [if_pos c]
        · rw [if_neg c, if_neg (by omega)]
      refine ⟨-1, M, M, e, ?_, h0⟩
      unfold g_X12_route g_X12_route_23
      rw [R_isWay RR]
      simp only [bindS, bI_0]
      rw [if_neg (fun q => q hw), R_isIn]
      simp only [bindS, bI_0]
      rw [if_pos hi]
    case pos =>
      rw [if_neg (show ¬ w < 0 by omega), if_pos hi.2]
      unfold g_X1_forget
      simp only [bindS]
      rw [w32_id (x := -a) (by omega) (by omega)]
      have F0 : ∀ x, x ≠ 14 → sameH M (uI (uI (uL M 14 0 (-a)) 14 1 0) 14 2 0) x := fun x h1 => ((sameH_uL h1).trans (sameH_uI h1)).trans (sameH_uI h1)
      have B0 : BS (uI (uI (uL M 14 0 (-a)) 14 1 0) 14 2 0) (-a, 0, 0) := ⟨rfl, rfl, rfl, by show (0 : Nat) < 216; omega, fun j hj => absurd hj (by show ¬ j < 0; omega)⟩
      generalize uI (uI (uL M 14 0 (-a)) 14 1 0) 14 2 0 = M0 at *
      have R0 : Rep true M0 78 N T L th pe po := R.same (fun h h1 h2 => F0 h (by omega))
      obtain ⟨M1, s1, s2, s3⟩ := K_search b78 R0 W (fr := fr) (to := to) (a := a) (by omega) (by omega) (by omega) B0
      have F1 : ∀ x, x ≠ 4 → ¬ (14 ≤ x ∧ x < 20) → sameH M M1 x := fun x h1 h2 => (F0 x (by omega)).trans (s3 x h1 h2)
      have RR1 : RepR M1 N T L th pe po := RR.same (fun h h1 h2 => F1 h (by omega) (by omega))
      have K1 : KON M1 := K.mv (fun x hx => F1 x (by omega) (by omega))
      obtain ⟨M2, t1, t2, t3, t4, t5, t6⟩ := R_routes RR1 K1 W (fr := fr) (to := to) (a := a) (by omega) (by omega)
      have hb := best_r (fr := fr) (to := to) (a := a) W h12 (by omega)
      have s2' : BS M1 (best N T L po fr to a) := s2
      generalize best N T L po fr to a = s at *
      rw [s1]
      simp only [bindS]
      have hIV : IV M2 := IV_mk3 (fun x h1 h2 h3 => F1 x h1 h2) (HP.same (fun i _ => (F1 146 (by omega) (by omega) i).2.2) hH) t6.1 (t6.2.1 8 (by omega) (by omega)) R t4 W hM hk ht t5 hA
      have ex : ∀ r : Int, (if zL M2 20 51 = 0 then some ((-2 : Int), M2) else if w = 0 then some (w32 (zL M2 20 51), M2) else if w = 1 then ((g_X12_lengthOf (zI M2 20 52) M2).bind fun q66 => (some (q66.1, q66.2))) else ((g_X12_lengthOf (zI M2 20 52) M2).bind fun q78 => (if q78.1 ≤ (w32 (w - 2)) then (g_X12_route_100 (-2) q78.2) else ((g_X12_poolIn (zI q78.2 20 52) (w32 (w - 2)) q78.2).bind fun q92 => (g_X12_route_100 q92.1 q92.2))))) = some (r, M2) → g_X12_route fr to a w M1 = some (r, M2) := by
        intro r hr
        unfold g_X12_route g_X12_route_23
        rw [R_isWay RR1]
        simp only [bindS, bI_0]
        rw [if_neg (fun q => q hw), R_isIn]
        simp only [bindS, bI_0]
        rw [if_neg (fun q => q hi), t1]
        simp only [bindS]
        exact hr
      have hB0 := s2'
      obtain ⟨b1, b2, b3, b4, b5⟩ := s2'
      rw [t2, t3] at ex
      rw [b1, b3]
      by_cases c0 : s.2.2 = 0
      · rw [if_pos (by unfold rl; rw [if_pos c0]; rfl)]
        exact ⟨_, M1, M2, rfl, ex _ (by rw [if_pos (hb.2.2.2 c0)]), hIV⟩
      · have erl : rl s.2.2 = rlen s.2.2 := if_neg c0
        have hr3 := rlen_r s.2.2
        rw [if_neg (by rw [erl]; omega)]
        have nz : ¬ s.1 + a = 0 := fun q => c0 (hb.2.2.1 q)
        rw [if_neg nz] at ex
        by_cases c1 : w = 0
        · rw [if_pos c1, w64_id (by omega) (by omega)]
          exact ⟨_, M1, M2, rfl, ex _ (by rw [if_pos c1]), hIV⟩
        · rw [if_neg c1]
          by_cases c2 : w = 1
          · rw [if_pos c2, erl]
            refine ⟨_, M1, M2, rfl, ex _ ?_, hIV⟩
            rw [if_neg c1, if_pos c2, R_lengthOf]
            rfl
          · rw [if_neg c2, w32_id (x := w - 2) (by omega) (by omega), K_bestPool hB0 (by omega) c0]
            simp only [bindS]
            refine ⟨_, M1, M2, rfl, ex _ ?_, hIV⟩
            rw [if_neg c1, if_neg c2, R_lengthOf]
            simp only [bindS]
            unfold g_X12_route_100
            rw [w32_id (x := w - 2) (by omega) (by omega)]
            by_cases c3 : (rlen s.2.2 : Int) ≤ w - 2
            · rw [if_pos c3, if_pos c3]
            · obtain ⟨j, ej⟩ : ∃ j : Nat, w - 2 = j := ⟨(w - 2).toNat, by omega⟩
              rw [ej] at c3 ⊢
              rw [if_neg c3, if_neg c3, t3, R_poolIn hb.1 (by omega), Int.toNat_natCast]
              rfl
theorem ok_route (a b c d : Int32) : SO INV (f_X11_route a b c d) (f_X12_route a b c d) := SO_of (IV := IV) (fun _ => l_X11_route rfl rfl rfl rfl rfl) (fun _ => l_X12_route rfl rfl rfl rfl rfl) (fun _ h => q_route h _ _ _ _)
end RT
