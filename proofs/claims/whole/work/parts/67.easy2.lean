/-! pool, total, end, passes -/
theorem w32_iff {x y : Int} : w32 x = w32 y ↔ (x - y) % 4294967296 = 0 := by
  unfold w32 Int.bmod
  simp only []
  constructor
  · intro h
    split at h <;> split at h <;> omega
  · intro h
    split <;> split <;> omega
theorem w64_iff {x y : Int} : w64 x = w64 y ↔ (x - y) % 18446744073709551616 = 0 := by
  unfold w64 Int.bmod
  simp only []
  constructor
  · intro h
    split at h <;> split at h <;> omega
  · intro h
    split <;> split <;> omega
theorem w32_d (x : Int) : (w32 x - x) % 4294967296 = 0 := w32_iff.mp (w32_w32 x)
theorem w64_d (x : Int) : (w64 x - x) % 18446744073709551616 = 0 := by
  unfold w64 Int.bmod
  simp only []
  split <;> omega
theorem w32_sub_cg {a b c d : Int} (h : w32 a = w32 b) (h2 : w32 c = w32 d) : w32 (a - c) = w32 (b - d) := by
  rw [w32_iff] at *
  omega
theorem w32_add_cg {a b c d : Int} (h : w32 a = w32 b) (h2 : w32 c = w32 d) : w32 (a + c) = w32 (b + d) := by
  rw [w32_iff] at *
  omega
def ovf (p : Nat) (k r z a : Int) (s : Nat → Int) : Int := if s 1 = p then w64 (a - w64 (owd s k.toNat + lie r z (s 5) (s 2) (s 3) k 0)) else a
def ovr (p : Nat) (k r z a : Int) (L : List (Nat → Int)) : Int := L.foldl (ovf p k r z) a
theorem ovr_cg (p : Nat) (k r z : Int) (L : List (Nat → Int)) : ∀ {a b : Int}, w32 a = w32 b → w32 (ovr p k r z a L) = w32 (ovr p k r z b L) := by
  induction L with
  | nil => intro a b h; exact h
  | cons s l ih =>
    intro a b h
    refine ih (a := ovf p k r z a s) (b := ovf p k r z b s) ?_
    unfold ovf
    split
    · rw [w32_w64, w32_w64]
      exact w32_sub_cg h rfl
    · exact h
theorem ovr_take (p : Nat) (k r z a : Int) {L : List (Nat → Int)} {i : Nat} (h : i < L.length) : ovr p k r z a (L.take (i + 1)) = ovf p k r z (ovr p k r z a (L.take i)) (L.getD i d0) := by
  unfold ovr
  rw [take_succ_getD h, List.foldl_append]
  rfl
section OVER
variable {M : MZ} {b : Nat} {kk : Bool} {N T : Nat → Int} {L : List (Nat → Int)} {th pe po : Int}
theorem K_over_loop (hb : bOK b) (R : Rep kk M b N T L th pe po) (W : WF N T L th pe po) {p : Nat} (hp : p < 5) (hq : (p : Int) < po) {k : Int} (hk : k = 0 ∨ k = 1) (a : Int) : ∀ (n i f : Nat), i + n = L.length → n < f → g_X2_overIn_38 f b p k (b + 2 + 2 + 5 * p) (ovr p k (N (22 + 23 * p)) (N (22 + 23 * p + 1)) a (L.take i)) i M = some (ovr p k (N (22 + 23 * p)) (N (22 + 23 * p + 1)) a L, M) := by
  have h12 := R.2.2.2.2.2.2
  have h3 := R.1.2.2.2.1
  intro n
  induction n with
  | zero =>
    intro i f hi hf
    obtain ⟨f, rfl⟩ : ∃ g, f = g + 1 := ⟨f - 1, by omega⟩
    unfold g_X2_overIn_38 g_X2_overIn_38B g_X2_overIn_107
    rw [if_pos (kdb hb), if_pos (by omega), show i = L.length by omega, List.take_length]
  | succ n ih =>
    intro i f hi hf
    obtain ⟨f, rfl⟩ : ∃ g, f = g + 1 := ⟨f - 1, by omega⟩
    have hl : i < L.length := by omega
    have hs := W.2.2 _ (getD_mem hl)
    have e2 := ih (i + 1) f (by omega) (by omega)
    rw [ovr_take _ _ _ _ _ hl] at e2
    have o := K_owed hb R hl (k := k.toNat) (by omega)
    rw [show ((k.toNat : Nat) : Int) = k by omega] at o
    unfold g_X2_overIn_38 g_X2_overIn_38B g_X2_overIn_66 g_X2_overIn_101
    rw [if_pos (kdb hb), if_neg (by omega), if_neg (by omega), if_pos (by omega), Int.toNat_natCast, if_pos (R.2.2.2.2.2.1.kd hb (by omega)), K_sI R hl (w := 1) (by omega), K_sI R hl (w := 5) (by omega), w32_id (x := (i : Int) + 1) (by omega) (by omega), K_lies hb R W hl hp hq (by have := hs.2.2.2.2.1; omega)]
    simp only [bindS, o]
    unfold ovf at e2
    by_cases hc : L.getD i d0 1 = p
    · rw [if_pos hc] at e2
      rw [if_pos hc, Int.add_comm (lie _ _ _ _ _ _ _)]
      exact e2
    · rw [if_neg hc] at e2
      rw [if_neg hc]
      exact e2
theorem K_overIn (hb : bOK b) (R : Rep kk M b N T L th pe po) (W : WF N T L th pe po) {p : Nat} (hp : p < 5) (hq : (p : Int) < po) {k : Int} (hk : k = 0 ∨ k = 1) : g_X2_overIn b p k M = some (ovr p k (N (22 + 23 * p)) (N (22 + 23 * p + 1)) (w32 (N (22 + 23 * p + (2 + k.toNat)) - N (22 + 23 * p + (4 + k.toNat)))) L, M) := by
  have h12 := R.2.2.2.2.2.2
  have e := K_over_loop hb R W hp hq hk (w32 (N (22 + 23 * p + (2 + k.toNat)) - N (22 + 23 * p + (4 + k.toNat)))) L.length 0 100000 (by omega) (by omega)
  unfold g_X2_overIn g_X2_overIn_17 g_X2_overIn_35
  rw [if_pos (kdb hb), K_poolAt_y hb hp (by rw [R.1.2.2.1]; exact hq)]
  simp only [bindS, K_isSide, bI_0]
  rw [if_neg (by omega), if_neg (fun q => q hk), if_pos (kdp hb hp), if_pos (by omega), if_pos (by omega), K_held R hp hq (by omega), K_house R hp hq (by omega), w32_sub_cg (w32_w32 _) (w32_w32 _)]
  exact e
theorem R_over_loop (R : RepR M N T L th pe po) (K : KON M) (W : WF N T L th pe po) {p : Nat} (hp : p < 5) (hq : (p : Int) < po) {k : Int} (hk : k = 0 ∨ k = 1) (a : Int) : ∀ (n i f : Nat), i + n = L.length → n < f → g_X12_overIn_21 f p k (ovr p k (N (22 + 23 * p)) (N (22 + 23 * p + 1)) a (L.take i)) i M = some (ovr p k (N (22 + 23 * p)) (N (22 + 23 * p + 1)) a L, M) := by
  have h12 := R.2.2.2.2.2
  have hz := W.1.r
  intro n
  induction n with
  | zero =>
    intro i f hi hf
    obtain ⟨f, rfl⟩ : ∃ g, f = g + 1 := ⟨f - 1, by omega⟩
    unfold g_X12_overIn_21 g_X12_overIn_21B
    rw [R_stakes R]
    simp only [bindS]
    rw [if_pos (by omega), show i = L.length by omega, List.take_length]
  | succ n ih =>
    intro i f hi hf
    obtain ⟨f, rfl⟩ : ∃ g, f = g + 1 := ⟨f - 1, by omega⟩
    have hl : i < L.length := by omega
    have hs := W.2.2 _ (getD_mem hl)
    have e2 := ih (i + 1) f (by omega) (by omega)
    rw [ovr_take _ _ _ _ _ hl] at e2
    have o := R_owedTo R hl (k := k.toNat) (by omega)
    rw [show ((k.toNat : Nat) : Int) = k by omega] at o
    have ew : ∀ x : Int, 0 ≤ x → x < 10 → g_X12_ofStake i x M = some (L.getD i d0 x.toNat, M) := fun x h1 h2 => R_stk R hl h1 h2
    have hl5 : 0 ≤ L.getD i d0 5 ∧ L.getD i d0 5 ≤ 12000000 := by have := hs.2.2.2.2.1; omega
    unfold g_X12_overIn_21 g_X12_overIn_21B g_X12_overIn_84
    rw [R_stakes R]
    simp only [bindS, ew 1 (by omega) (by omega), ew 2 (by omega) (by omega), ew 3 (by omega) (by omega), ew 5 (by omega) (by omega), o, show (1 : Int).toNat = 1 from rfl, show (2 : Int).toNat = 2 from rfl, show (3 : Int).toNat = 3 from rfl, show (5 : Int).toNat = 5 from rfl, hs.w (by omega) (by omega) (show 2 < 6 by omega), hs.w (by omega) (by omega) (show 3 < 6 by omega), R_lies R K W hl hp hq hl5 hk]
    rw [if_neg (by omega), w32_id (x := (i : Int) + 1) (by omega) (by omega)]
    unfold ovf at e2
    by_cases hc : L.getD i d0 1 = p
    · rw [if_pos hc] at e2
      rw [if_pos hc]
      exact e2
    · rw [if_neg hc] at e2
      rw [if_neg hc]
      exact e2
theorem R_overIn (R : RepR M N T L th pe po) (K : KON M) (W : WF N T L th pe po) {p : Nat} (hp : p < 5) (hq : (p : Int) < po) {k : Int} (hk : k = 0 ∨ k = 1) : g_X12_overIn p k M = some (ovr p k (N (22 + 23 * p)) (N (22 + 23 * p + 1)) (w64 (N (22 + 23 * p + (2 + k.toNat)) - N (22 + 23 * p + (4 + k.toNat)))) L, M) := by
  have h12 := R.2.2.2.2.2
  have e := R_over_loop R K W hp hq hk (w64 (N (22 + 23 * p + (2 + k.toNat)) - N (22 + 23 * p + (4 + k.toNat)))) L.length 0 100000 (by omega) (by omega)
  unfold g_X12_overIn g_X12_overIn_18
  rw [w32_id (x := 2 + k) (by omega) (by omega), w32_id (x := 4 + k) (by omega) (by omega), R_pool R hp (w := 2 + k) (by omega) (by omega)]
  simp only [bindS]
  rw [R_pool R hp (w := 4 + k) (by omega) (by omega)]
  simp only [bindS]
  rw [show (2 + k).toNat = 2 + k.toNat by omega, show (4 + k).toNat = 4 + k.toNat by omega]
  exact e
end OVER
theorem q_pool {M : MZ} (h : IV M) (p w : Int) : ∃ r, g_X11_pool p w M = some (r, M) ∧ g_X12_pool p w M = some (r, M) := by
  obtain ⟨N, T, L, th, pe, po, R, RR, W, -, -, -, -, K, -⟩ := h
  have hz := W.1.r
  unfold g_X11_pool g_X12_pool g_X12_pool_20 g_X12_pool_106 g_X12_pool_119
  rw [R_isPool, RR.1.2.2]
  simp only [bindS, bI_0]
  by_cases hp : 0 ≤ p ∧ p < po
  · obtain ⟨p, rfl⟩ := zR_nat hp.1
    have h5 : p < 5 := by omega
    have hzz := (W.2.1 p h5 hp.2).2
    have ht := (W.2.1 p h5 hp.2).1
    have ezn := K_zone R h5 hp.2
    rw [w32_id (by have := hzz.1; omega) (by have := hzz.1; omega)] at ezn
    have a1 := rtz_r (t := N (22 + 23 * p + 1)) (by have := hzz.1; omega) (by have := hzz.1; omega)
    have a2 := rtz_r (t := N (22 + 23 * p + 1) + 1) (by have := hzz.1; omega) (by have := hzz.1; omega)
    rw [K_poolAt_y b78 h5 (by rw [R.1.2.2.1]; exact hp.2), if_neg (fun q => q hp), R_isIn]
    simp only [bindS, bI_0]
    rw [if_neg (show ¬ 78 + 2 + 2 + 5 * p = 0 by omega)]
    simp only [if_pos (kdp b78 h5)]
    by_cases hw : 0 ≤ w ∧ w ≤ 13
    · rw [if_neg (show ¬¬ (0 ≤ w ∧ w ≤ 13) from fun q => q hw)]
      have hcase : w = 0 ∨ w = 1 ∨ w = 2 ∨ w = 3 ∨ w = 4 ∨ w = 5 ∨ w = 6 ∨ w = 7 ∨ w = 8 ∨ w = 9 ∨ w = 10 ∨ w = 11 ∨ w = 12 ∨ w = 13 := by omega
      have eG : ∀ x : Int, 0 ≤ x → x < 5 → w32 (w32 (5 * (p : Int)) + x) = 5 * p + x := fun x h1 h2 => ixT (by omega) (by omega)
      have eP : ∀ x : Int, 0 ≤ x → x < 23 → g_X12_ofPool p x M = some (N (22 + 23 * p + x.toNat), M) := fun x h1 h2 => R_pool RR h5 h1 h2
      rcases hcase with rfl | rfl | rfl | rfl | rfl | rfl | rfl | rfl | rfl | rfl | rfl | rfl | rfl | rfl
      · simp only [Int.reduceEq, Int.reduceLE, reduceIte]
        rw [eG 0 (by omega) (by omega), if_pos (by omega), show (5 * (p : Int) + 0).toNat = 5 * p + 0 by omega, RR.2.1 _ (by omega), K_told R h5 hp.2 (by omega)]
        exact ⟨_, rfl, rfl⟩
      · simp only [Int.reduceEq, Int.reduceLE, reduceIte]
        rw [eG 1 (by omega) (by omega), if_pos (by omega), show (5 * (p : Int) + 1).toNat = 5 * p + 1 by omega, RR.2.1 _ (by omega), K_told R h5 hp.2 (by omega)]
        exact ⟨_, rfl, rfl⟩
      · simp only [Int.reduceEq, Int.reduceLE, reduceIte]
        rw [eG 2 (by omega) (by omega), if_pos (by omega), show (5 * (p : Int) + 2).toNat = 5 * p + 2 by omega, RR.2.1 _ (by omega), K_told R h5 hp.2 (by omega)]
        exact ⟨_, rfl, rfl⟩
      · simp only [Int.reduceEq, Int.reduceLE, reduceIte]
        rw [eG 3 (by omega) (by omega), if_pos (by omega), show (5 * (p : Int) + 3).toNat = 5 * p + 3 by omega, RR.2.1 _ (by omega), K_told R h5 hp.2 (by omega)]
        exact ⟨_, rfl, rfl⟩
      · simp only [Int.reduceEq, Int.reduceLE, reduceIte]
        rw [eG 4 (by omega) (by omega), if_pos (by omega), show (5 * (p : Int) + 4).toNat = 5 * p + 4 by omega, RR.2.1 _ (by omega), K_told R h5 hp.2 (by omega)]
        exact ⟨_, rfl, rfl⟩
      · simp only [Int.reduceEq, Int.reduceLE, reduceIte, bindS, R_zone RR h5 hzz.1, ezn]
        exact ⟨_, rfl, rfl⟩
      · simp only [Int.reduceEq, Int.reduceLE, reduceIte, bindS, eP 0 (by omega) (by omega), show (0 : Int).toNat = 0 from rfl, Nat.add_zero, K_root R h5 hp.2]
        exact ⟨_, rfl, rfl⟩
      · simp only [Int.reduceEq, Int.reduceLE, reduceIte, bindS, R_zone RR h5 hzz.1, ezn, K_liq b78 R W.2.2, R_depthOf RR W.2.2]
        exact ⟨_, rfl, rfl⟩
      · simp only [Int.reduceEq, Int.reduceLE, reduceIte, bindS, show w32 (w32 (2 + 8) - 8) = 2 from rfl, eP 2 (by omega) (by omega), show (2 : Int).toNat = 2 from rfl, K_held R h5 hp.2 (show 0 < 2 by omega), Nat.add_zero]
        exact ⟨_, rfl, rfl⟩
      · simp only [Int.reduceEq, Int.reduceLE, reduceIte, bindS, show w32 (w32 (2 + 9) - 8) = 3 from rfl, eP 3 (by omega) (by omega), show (3 : Int).toNat = 3 from rfl, K_held R h5 hp.2 (show 1 < 2 by omega)]
        exact ⟨_, rfl, rfl⟩
      · simp only [Int.reduceEq, Int.reduceLE, reduceIte, bindS, show w32 (w32 (4 + 10) - 10) = 4 from rfl, eP 4 (by omega) (by omega), show (4 : Int).toNat = 4 from rfl, K_house R h5 hp.2 (show 0 < 2 by omega), Nat.add_zero]
        exact ⟨_, rfl, rfl⟩
      · simp only [Int.reduceEq, Int.reduceLE, reduceIte, bindS, show w32 (w32 (4 + 11) - 10) = 5 from rfl, eP 5 (by omega) (by omega), show (5 : Int).toNat = 5 from rfl, K_house R h5 hp.2 (show 1 < 2 by omega)]
        exact ⟨_, rfl, rfl⟩
      · simp only [Int.reduceEq, Int.reduceLE, reduceIte, bindS, show w32 (12 - 12) = 0 from rfl, K_overIn b78 R W h5 hp.2 (Or.inl rfl), R_overIn RR K W h5 hp.2 (Or.inl rfl)]
        exact ⟨_, rfl, by rw [ovr_cg _ _ _ _ _ ((w32_w64 _).trans (w32_w32 _).symm)]⟩
      · simp only [Int.reduceEq, Int.reduceLE, reduceIte, bindS, show w32 (13 - 12) = 1 from rfl, K_overIn b78 R W h5 hp.2 (Or.inr rfl), R_overIn RR K W h5 hp.2 (Or.inr rfl)]
        exact ⟨_, rfl, by rw [ovr_cg _ _ _ _ _ ((w32_w64 _).trans (w32_w32 _).symm)]⟩
    · rw [if_pos (show ¬ (0 ≤ w ∧ w ≤ 13) from hw)]
      refine ⟨-1, ?_, rfl⟩
      rw [if_neg (by omega), if_neg (by omega), if_neg (by omega), if_neg (by omega), if_neg (by omega), if_neg (by omega), if_neg (by omega), if_neg (by omega), if_neg (by omega), if_neg (by omega), if_neg (by omega), if_neg (by omega), if_neg (by omega), if_neg (by omega)]
  · rw [K_poolAt_n b78 (by rw [R.1.2.2.1]; exact hp), if_pos hp]
    simp only [bindS]
    exact ⟨_, rfl, rfl⟩
theorem ok_pool (a b : Int32) : SO INV (f_X11_pool a b) (f_X12_pool a b) := SO_q (fun _ => l_X11_pool rfl rfl rfl) (fun _ => l_X12_pool rfl rfl rfl) (fun _ h => q_pool h _ _)
