/-! a fee is shared -/
def shS (p : Nat) (z : Int) (k : Nat) (g : Int) (s : Nat → Int) : Nat → Int := if s 1 = p ∧ s 2 ≤ z ∧ z < s 3 then ud s (6 + k) (w64 (s (6 + k) + g)) else s
def shL (L : List (Nat → Int)) (p : Nat) (z : Int) (k : Nat) (g : Int) : List (Nat → Int) := L.map (shS p z k g)
def cutF (fee c : Int) : Int := w64 (Int.tdiv (w64 (fee * c)) 100)
def gnF (fee cut l : Int) : Int := w64 (Int.tdiv (w64 (w64 (fee - cut) * 1048576)) l)
def hoC (p k : Nat) : Nat := 22 + 23 * p + (4 + k)
/-- numbers and row behind the sharing of a fee -/
def shN (N T : Nat → Int) (p k : Nat) (fee : Int) : Nat → Int := ud N (hoC p k) (w64 (N (hoC p k) + cutF fee (T (5 * p + 3))))
def shG (T : Nat → Int) (L : List (Nat → Int)) (p : Nat) (z fee : Int) : Int := gnF fee (cutF fee (T (5 * p + 3))) (dep L p z)
def shR (T : Nat → Int) (L : List (Nat → Int)) (p : Nat) (z : Int) (k : Nat) (fee : Int) : List (Nat → Int) := if dep L p z = 0 then L else shL L p z k (shG T L p z fee)
theorem shS_lo (p : Nat) (z : Int) (k : Nat) (g : Int) (s : Nat → Int) {w : Nat} (hw : w < 6) : shS p z k g s w = s w := by
  unfold shS
  split
  · rw [ud_ne (by omega)]
  · rfl
theorem shL_len (L : List (Nat → Int)) (p : Nat) (z : Int) (k : Nat) (g : Int) : (shL L p z k g).length = L.length := List.length_map ..
theorem shL_getD (L : List (Nat → Int)) (p : Nat) (z : Int) (k : Nat) (g : Int) {i : Nat} (hi : i < L.length) : (shL L p z k g).getD i d0 = shS p z k g (L.getD i d0) := by
  unfold shL
  rw [List.getD_eq_getElem?_getD, List.getElem?_map, List.getD_eq_getElem?_getD, List.getElem?_eq_getElem hi]
  rfl
section SH
variable {M : MZ} {b : Nat} {kk : Bool} {N T : Nat → Int} {L : List (Nat → Int)} {th pe po : Int}
theorem Rep.cg {L' : List (Nat → Int)} (R : Rep kk M b N T L th pe po) (hl : L'.length = L.length) (h : ∀ i, i < L.length → ∀ w, w < 10 → L'.getD i d0 w = L.getD i d0 w) : Rep kk M b N T L' th pe po := by
  obtain ⟨⟨a0, a1, a2, a3, a4, a5⟩, hp, ht, hc, hL, hH, hn⟩ := R
  exact ⟨⟨a0, a1, a2, by rw [hl]; exact a3, a4, a5⟩, hp, ht, hc, fun i hi w hw => by rw [hl] at hi; rw [h i hi w hw]; exact hL i hi w hw, hH, by rw [hl]; exact hn⟩
theorem K_share_loop (hb : bOK b) {p k : Nat} (hp : p < 5) (hk : k < 2) (hq : (p : Int) < po) {z g : Int} (hz : w32 (N (22 + 23 * p + 1)) = z) : ∀ (n i f : Nat), i + n = L.length → n < f → ∀ (M' : MZ) (L' : List (Nat → Int)), Rep kk M' b N T L' th pe po → L'.length = L.length → (∀ j, j < L.length → L'.getD j d0 = if j < i then shS p z k g (L.getD j d0) else L.getD j d0) → ∃ M'', g_X2_share_86 f b p k (b + 2 + 2 + 5 * p) g i M' = some ((), M'') ∧ Rep kk M'' b N T (shL L p z k g) th pe po ∧ FrB b M' M'' ∧ (∀ a k, zR M'' a k = zR M' a k) := by
  intro n
  induction n with
  | zero =>
    intro i f hi hf M' L' R hl hg
    obtain ⟨f, rfl⟩ : ∃ g, f = g + 1 := ⟨f - 1, by omega⟩
    refine ⟨M', ?_, ?_, FrB.rfl, fun _ _ => rfl⟩
    · have e : g_X2_share_86 (f + 1) b p k (b + 2 + 2 + 5 * p) g i M' = g_X2_share_86B (g_X2_share_86 f) b p k (b + 2 + 2 + 5 * p) g i M' := rfl
      rw [e]
      unfold g_X2_share_86B g_X2_share_154
      rw [if_pos (kdb hb), if_pos (by rw [R.1.2.2.2.1, hl]; omega)]
    · exact R.cg (by rw [shL_len, hl]) (fun j hj w hw => by rw [hl] at hj; rw [shL_getD _ _ _ _ _ hj, hg j hj, if_pos (by omega)])
  | succ n ih =>
    intro i f hi hf M' L' R hl hg
    obtain ⟨f, rfl⟩ : ∃ g, f = g + 1 := ⟨f - 1, by omega⟩
    have h12 := R.2.2.2.2.2.2
    have hi' : i < L'.length := by omega
    have e : g_X2_share_86 (f + 1) b p k (b + 2 + 2 + 5 * p) g i M' = g_X2_share_86B (g_X2_share_86 f) b p k (b + 2 + 2 + 5 * p) g i M' := rfl
    have gi : L'.getD i d0 = L.getD i d0 := by rw [hg i (by omega), if_neg (by omega)]
    have hkd := R.2.2.2.2.2.1.kd hb (show i < 12 by omega)
    have hrg := R.2.2.2.2.2.1.rng (show i < 12 by omega)
    have hstep : g_X2_share_86B (g_X2_share_86 f) b p k (b + 2 + 2 + 5 * p) g i M' = g_X2_share_86 f b p k (b + 2 + 2 + 5 * p) g ((i + 1 : Nat) : Int) (if L.getD i d0 1 = p ∧ L.getD i d0 2 ≤ z ∧ z < L.getD i d0 3 then uS M' (zR M' (b + 3) i) (6 + k) (w64 (L.getD i d0 (6 + k) + g)) else M') := by
      unfold g_X2_share_86B g_X2_share_114 g_X2_share_148
      rw [if_pos (kdb hb), R.1.2.2.2.1, if_neg (by omega), if_neg (by omega), if_pos (by omega), Int.toNat_natCast, if_pos hkd, K_sI R hi' (w := 1) (by omega), gi, if_pos (kdp hb hp), K_zone R hp hq, hz, K_reaches hb R hi', gi]
      simp only [bindS, bI_0]
      rw [w32_id (x := (i : Int) + 1) (by omega) (by omega), if_pos (show 0 ≤ (k : Int) ∧ (k : Int) < ((2 : Nat) : Int) by omega), if_pos (show 0 ≤ (k : Int) ∧ (k : Int) < ((2 : Nat) : Int) by omega), Int.toNat_natCast, K_sG R hi' hk, gi, show (i : Int) + 1 = ((i + 1 : Nat) : Int) by omega]
      have eu : uS M' (zR M' (b + 3) i) (6 + k) (w64 (L.getD i d0 (6 + k) + g)) = uL M' (zR M' (b + 3) i + 1) k (w64 (L.getD i d0 (6 + k) + g)) := by
        unfold uS
        rw [if_neg (by omega), if_pos (by omega), show 6 + k - 6 = k by omega]
      rw [eu]
      by_cases c1 : L.getD i d0 1 = p
      · rw [if_pos c1]
        by_cases c2 : L.getD i d0 2 ≤ z ∧ z < L.getD i d0 3
        · rw [if_neg (fun q => q c2), if_pos ⟨c1, c2⟩]
        · rw [if_pos c2, if_neg (fun q => c2 q.2)]
      · rw [if_neg c1, if_neg (fun q => c1 q.1)]
    rw [e, hstep]
    by_cases c : L.getD i d0 1 = p ∧ L.getD i d0 2 ≤ z ∧ z < L.getD i d0 3
    · rw [if_pos c]
      have R1 := R.stake (i := i) (w := 6 + k) hi' (by omega) (w64 (L.getD i d0 (6 + k) + g))
      rw [gi] at R1
      obtain ⟨M'', a1, a2, a3, a4⟩ := ih (i + 1) f (by omega) (by omega) _ _ R1 (by rw [List.length_set]; exact hl) (fun j hj => by
        rw [getD_set hi']
        by_cases cj : j = i
        · subst cj
          rw [if_pos rfl, if_pos (by omega)]
          unfold shS
          rw [if_pos c]
        · rw [if_neg cj, hg j hj]
          by_cases cl : j < i
          · rw [if_pos cl, if_pos (by omega)]
          · rw [if_neg cl, if_neg (by omega)])
      exact ⟨M'', a1, a2, (FrB_uS (by omega)).trans a3, fun x y => by rw [a4, zR_uS]⟩
    · rw [if_neg c]
      exact ih (i + 1) f (by omega) (by omega) _ _ R hl (fun j hj => by
        rw [hg j hj]
        by_cases cj : j = i
        · subst cj
          rw [if_neg (by omega), if_pos (by omega)]
          unfold shS
          rw [if_neg c]
        · by_cases cl : j < i
          · rw [if_pos cl, if_pos (by omega)]
          · rw [if_neg cl, if_neg (by omega)])
/-- a fee of a pool with liquidity -/
theorem K_share (hb : bOK b) (R : Rep kk M b N T L th pe po) (hL : Lok pe po L) {p k : Nat} (hp : p < 5) (hk : k < 2) (hq : (p : Int) < po) {z fee : Int} (hz : w32 (N (22 + 23 * p + 1)) = z) (hd : 1 ≤ dep L p z) : ∃ M', g_X2_share b p k fee M = some ((), M') ∧ Rep kk M' b (shN N T p k fee) T (shR T L p z k fee) th pe po ∧ FrB b M M' ∧ (∀ a k, zR M' a k = zR M a k) := by
  have R1 := R.pool (p := p) (w := 4 + k) hp (by omega) (v := w64 (N (22 + 23 * p + (4 + k)) + cutF fee (T (5 * p + 3)))) rfl
  have pk : pad (4 + k) = 2 := by unfold pad; repeat' split
                                  all_goals omega
  have qk : ppl (4 + k) = k := by unfold ppl; repeat' split
                                  all_goals omega
  rw [pk, qk] at R1
  have h12 := R.2.2.2.2.2.2
  obtain ⟨M2, a1, a2, a3, a4⟩ := K_share_loop (L := L) (z := z) (g := shG T L p z fee) hb hp hk hq (by rw [ud_ne (by omega)]; exact hz) L.length 0 100000 (by omega) (by omega) _ L R1 rfl (fun j hj => by rw [if_neg (by omega)])
  refine ⟨M2, ?_, ?_, (FrB_uI (by omega)).trans a3, fun x y => by rw [a4]; rfl⟩
  · unfold g_X2_share g_X2_share_26 g_X2_share_57 g_X2_share_83
    rw [if_pos (kdb hb), K_poolAt_y hb hp (by rw [R.1.2.2.1]; exact hq)]
    simp only [bindS]
    rw [if_neg (by omega), if_pos (kdp hb hp), K_zone R hp hq, hz, K_liq hb R hL]
    simp only [bindS]
    rw [if_neg (by omega), K_isSide]
    simp only [bindS, bI_0]
    rw [if_neg (by omega), if_pos (kdp hb hp), if_pos (kdp hb hp), if_pos (by omega), if_pos (by omega), if_neg (by omega), K_told R hp hq (by omega), Int.toNat_natCast, K_house R hp hq hk]
    have ec : w64 (Int.tdiv (w64 (fee * T (5 * p + 3))) 100) = cutF fee (T (5 * p + 3)) := rfl
    rw [ec, w32_al, w32_ar]
    have ew : w32 (N (22 + 23 * p + (4 + k)) + cutF fee (T (5 * p + 3))) = w32 (w64 (N (22 + 23 * p + (4 + k)) + cutF fee (T (5 * p + 3)))) := (w32_w64 _).symm
    rw [ew]
    exact a1
  · have : shR T L p z k fee = shL L p z k (shG T L p z fee) := if_neg (by omega)
    rw [this]
    exact a2
theorem R_share_loop {p k : Nat} (hp : p < 5) (hk : k < 2) {z fee cut l : Int} (hl0 : l ≠ 0) : ∀ (n i f : Nat), i + n = L.length → n < f → ∀ (M' : MZ) (L' : List (Nat → Int)), RepR M' N T L' th pe po → L'.length = L.length → (∀ j, j < L.length → L'.getD j d0 = if j < i then shS p z k (gnF fee cut l) (L.getD j d0) else L.getD j d0) → ∃ M'', g_X12_shares_56 f p k fee cut z l i M' = some ((), M'') ∧ RepR M'' N T (shL L p z k (gnF fee cut l)) th pe po ∧ Fr23 M' M'' := by
  intro n
  induction n with
  | zero =>
    intro i f hi hf M' L' R hl hg
    obtain ⟨f, rfl⟩ : ∃ g, f = g + 1 := ⟨f - 1, by omega⟩
    refine ⟨M', ?_, ?_, Fr23.rfl⟩
    · have e : g_X12_shares_56 (f + 1) p k fee cut z l i M' = g_X12_shares_56B (g_X12_shares_56 f) p k fee cut z l i M' := rfl
      rw [e]
      unfold g_X12_shares_56B
      rw [R_stakes R]
      simp only [bindS]
      rw [if_pos (by omega)]
    · exact R.cg (by rw [shL_len, hl]) (fun j hj w hw => by rw [hl] at hj; rw [shL_getD _ _ _ _ _ hj, hg j hj, if_pos (by omega)])
  | succ n ih =>
    intro i f hi hf M' L' R hl hg
    obtain ⟨f, rfl⟩ : ∃ g, f = g + 1 := ⟨f - 1, by omega⟩
    have h12 := R.2.2.2.2.2
    have hi' : i < L'.length := by omega
    have e : g_X12_shares_56 (f + 1) p k fee cut z l i M' = g_X12_shares_56B (g_X12_shares_56 f) p k fee cut z l i M' := rfl
    have gi : L'.getD i d0 = L.getD i d0 := by rw [hg i (by omega), if_neg (by omega)]
    have o6 : g_X12_ofStake i (6 + (k : Int)) M' = some (L.getD i d0 (6 + k), M') := by
      rw [R_stk R hi' (by omega) (by omega), gi, show (6 + (k : Int)).toNat = 6 + k by omega]
    have hstep : g_X12_shares_56B (g_X12_shares_56 f) p k fee cut z l i M' = g_X12_shares_56 f p k fee cut z l ((i + 1 : Nat) : Int) (if L.getD i d0 1 = p ∧ L.getD i d0 2 ≤ z ∧ z < L.getD i d0 3 then uL M' 23 (138 + 10 * i + (6 + k)) (w64 (L.getD i d0 (6 + k) + gnF fee cut l)) else M') := by
      unfold g_X12_shares_56B g_X12_shares_109
      rw [R_stakes R]
      simp only [bindS, R_across R hi', gi, bI_0]
      rw [if_neg (by omega), w32_id (x := (i : Int) + 1) (by omega) (by omega), w32_id (x := 6 + (k : Int)) (by omega) (by omega), o6]
      simp only [bindS]
      rw [if_neg hl0, R_setStake (by omega) (by omega) (by omega)]
      simp only [bindS]
      rw [show (6 + (k : Int)).toNat = 6 + k by omega, show (i : Int) + 1 = ((i + 1 : Nat) : Int) by omega]
      have eg : w64 (Int.tdiv (w64 (w64 (fee - cut) * 1048576)) l) = gnF fee cut l := rfl
      rw [eg]
      by_cases c : L.getD i d0 1 = p ∧ L.getD i d0 2 ≤ z ∧ z < L.getD i d0 3
      · rw [if_neg (fun q => q c), if_pos c]
      · rw [if_pos c, if_neg c]
    rw [e, hstep]
    by_cases c : L.getD i d0 1 = p ∧ L.getD i d0 2 ≤ z ∧ z < L.getD i d0 3
    · rw [if_pos c]
      have R1 := R.stake (i := i) (w := 6 + k) hi' (by omega) (w64 (L.getD i d0 (6 + k) + gnF fee cut l))
      rw [gi] at R1
      obtain ⟨M'', a1, a2, a3⟩ := ih (i + 1) f (by omega) (by omega) _ _ R1 (by rw [List.length_set]; exact hl) (fun j hj => by
        rw [getD_set hi']
        by_cases cj : j = i
        · subst cj
          rw [if_pos rfl, if_pos (by omega)]
          unfold shS
          rw [if_pos c]
        · rw [if_neg cj, hg j hj]
          by_cases cl : j < i
          · rw [if_pos cl, if_pos (by omega)]
          · rw [if_neg cl, if_neg (by omega)])
      exact ⟨M'', a1, a2, Fr23_u.trans a3⟩
    · rw [if_neg c]
      exact ih (i + 1) f (by omega) (by omega) _ _ R hl (fun j hj => by
        rw [hg j hj]
        by_cases cj : j = i
        · subst cj
          rw [if_neg (by omega), if_pos (by omega)]
          unfold shS
          rw [if_neg c]
        · by_cases cl : j < i
          · rw [if_pos cl, if_pos (by omega)]
          · rw [if_neg cl, if_neg (by omega)])
theorem R_share (R : RepR M N T L th pe po) (hL : Lok pe po L) {p k : Nat} (hp : p < 5) (hk : k < 2) (hz : 0 ≤ N (22 + 23 * p + 1) ∧ N (22 + 23 * p + 1) < 40) (fee : Int) : ∃ M', g_X12_shares p k fee M = some ((), M') ∧ RepR M' (shN N T p k fee) T (shR T L p (N (22 + 23 * p + 1)) k fee) th pe po ∧ Fr23 M M' := by
  have h12 := R.2.2.2.2.2
  have R1 := R.cell (j := 22 + 23 * p + (4 + k)) (by omega) (w64 (N (22 + 23 * p + (4 + k)) + cutF fee (T (5 * p + 3))))
  have hst : g_X12_shares p k fee M = (if dep L p (N (22 + 23 * p + 1)) = 0 then some ((), uL M 23 (22 + 23 * p + (4 + k)) (w64 (N (22 + 23 * p + (4 + k)) + cutF fee (T (5 * p + 3))))) else g_X12_shares_56 100000 p k fee (cutF fee (T (5 * p + 3))) (N (22 + 23 * p + 1)) (dep L p (N (22 + 23 * p + 1))) 0 (uL M 23 (22 + 23 * p + (4 + k)) (w64 (N (22 + 23 * p + (4 + k)) + cutF fee (T (5 * p + 3)))))) := by
    unfold g_X12_shares g_X12_shares_19
    rw [ixT (by omega) (by omega), if_pos (by omega), show (5 * (p : Int) + 3).toNat = 5 * p + 3 by omega, R.2.1 _ (by omega), R_zone R hp hz]
    simp only [bindS]
    rw [R_depthOf R hL]
    simp only [bindS]
    rw [w32_id (x := 4 + (k : Int)) (by omega) (by omega), R_morePool hp (by omega) (by omega)]
    simp only [bindS]
    rw [show (4 + (k : Int)).toNat = 4 + k by omega, R.2.2.1 _ (by omega)]
    rfl
  rw [hst]
  unfold shR
  by_cases c : dep L p (N (22 + 23 * p + 1)) = 0
  · rw [if_pos c, if_pos c]
    exact ⟨_, rfl, R1, Fr23_u⟩
  · rw [if_neg c, if_neg c]
    obtain ⟨M2, a1, a2, a3⟩ := R_share_loop (L := L) (z := N (22 + 23 * p + 1)) (fee := fee) (cut := cutF fee (T (5 * p + 3))) hp hk c L.length 0 100000 (by omega) (by omega) _ L R1 rfl (fun j hj => by rw [if_neg (by omega)])
    exact ⟨M2, a1, a2, Fr23_u.trans a3⟩
end SH
