/-! ring -/
section RG
variable {N T : Nat → Int} {L : List (Nat → Int)} {th pe po t a : Int}
theorem Vr_1 (W : WF N T L th pe po) {r : Nat} (hr : r < 6) : Vr N T L po t t a r = 0 := by
  unfold Vr
  rw [if_neg]
  intro hc
  have hl : rlen r = 1 := if_pos hr
  rw [hl] at hc
  unfold chk at hc
  rw [Bool.and_eq_true, decide_eq_true_eq, hl] at hc
  obtain ⟨⟨h1, h2, h3, h4, h5⟩, _⟩ := hc
  rw [if_pos rfl] at h5
  have h6 := dg_lt r (1 - (0 + 1))
  generalize dg r (1 - (0 + 1)) = d at *
  have hT := (W.2.1 (d - 1) (by omega) h2).1
  unfold Told at hT
  have hne := hT.2.2.1
  rcases sdP_r T (d - 1) t with c | c | c
  · rw [c] at h5
    unfold otP at h5
    rw [if_pos rfl] at h5
    unfold sdP at c
    by_cases e : T (5 * (d - 1)) = t
    · omega
    · rw [if_neg e] at c
      split at c <;> omega
  · rw [c] at h5
    unfold otP at h5
    rw [if_neg (by omega)] at h5
    unfold sdP at c
    rw [if_pos h5] at c
    omega
  · omega
def rgA (k : Nat) : Int := ((10 ^ k : Nat) : Int)
def rgS (N T : Nat → Int) (L : List (Nat → Int)) (po t : Int) : Nat → BT
  | 0 => (0, 0, 0)
  | k + 1 => (dfs 3 0 0).foldl (stp (rgA k) (Vr N T L po t t (rgA k))) (rgS N T L po t k)
theorem rgA_r : ∀ k, k ≤ 4 → 0 < rgA k ∧ rgA k ≤ 10000 ∧ rgA (k + 1) = rgA k * 10 := by decide
theorem rgS_r (W : WF N T L th pe po) (h12 : L.length ≤ 12) : ∀ k, k ≤ 5 → (0 ≤ (rgS N T L po t k).1 ∧ (rgS N T L po t k).1 ≤ 9000000000) ∧ (0 ≤ (rgS N T L po t k).2.1 ∧ (rgS N T L po t k).2.1 < rgA k) ∧ (rgS N T L po t k).2.2 < 216 ∧ ((rgS N T L po t k).1 = 0 ↔ (rgS N T L po t k).2.2 = 0) := by
  intro k
  induction k with
  | zero =>
    intro _
    exact ⟨by show (0 : Int) ≤ 0 ∧ (0 : Int) ≤ 9000000000; omega, by show (0 : Int) ≤ 0 ∧ (0 : Int) < 1; omega, by show (0 : Nat) < 216; omega, by show (0 : Int) = 0 ↔ (0 : Nat) = 0; omega⟩
  | succ k ih =>
    intro hk
    obtain ⟨h1, h2, h3, h4⟩ := ih (by omega)
    have hA := rgA_r k (by omega)
    have h : Bst (rgA k) (Vr N T L po t t (rgA k)) (rgS N T L po t k) (rgS N T L po t (k + 1)) _ := Bst_dfs (by omega) (by omega)
    rcases h with ⟨e, _⟩ | ⟨x, e1, e2, e3, _⟩
    · rw [e]
      exact ⟨h1, by omega, h3, h4⟩
    · have hv := Vr_r (r := x) W h12 t t (a := rgA k) (by omega)
      have hx := dfs_ge x e1
      rw [e2]
      refine ⟨?_, ?_, hx.2, ?_⟩
      · show 0 ≤ Vr N T L po t t (rgA k) x - rgA k ∧ Vr N T L po t t (rgA k) x - rgA k ≤ 9000000000
        omega
      · show 0 ≤ rgA k ∧ rgA k < rgA (k + 1)
        omega
      · show Vr N T L po t t (rgA k) x - rgA k = 0 ↔ x = 0
        omega
/-- what a ring says -/
def rgV (w : Int) (s : BT) : Int := if s.1 = 0 then -2 else if w = 0 then w32 s.1 else if w = 1 then s.2.1 else if w = 2 then (rlen s.2.2 : Int) else if (rlen s.2.2 : Int) ≤ w - 3 then -2 else rpl s.2.2 (w - 3).toNat
theorem R_ring_in (W : WF N T L th pe po) (ht : 0 ≤ t ∧ t < 5) (ha : 0 < a ∧ a ≤ 9999999) {s0 : BT} (k33 : Int → Int → Int → Int → Int → Int → MZ → Option (Int × MZ)) (w : Int) : ∀ (m r f : Nat) (M : MZ) (s : BT), r + m = 216 → 6 ≤ r → m < f → RepR M N T L th pe po → KON M → Bst a (Vr N T L po t t a) s0 s (fun x => 6 ≤ x ∧ x < r) → ∃ M' s', g_X12_ring_45 k33 f t w s.1 s.2.1 (s.2.2 : Int) a r M = k33 t w s'.1 s'.2.1 (s'.2.2 : Int) (w32 (a * 10)) M' ∧ Bst a (Vr N T L po t t a) s0 s' (fun x => 6 ≤ x ∧ x < 216) ∧ RepR M' N T L th pe po ∧ KON M' ∧ FrO M M' := by
  intro m
  induction m with
  | zero =>
    intro r f M s hr h1 hf R K hB
    obtain ⟨f, rfl⟩ : ∃ g, f = g + 1 := ⟨f - 1, by omega⟩
    obtain rfl : r = 216 := by omega
    have e : g_X12_ring_45 k33 (f + 1) t w s.1 s.2.1 (s.2.2 : Int) a (216 : Nat) M = g_X12_ring_45B k33 (g_X12_ring_45 k33 f) t w s.1 s.2.1 (s.2.2 : Int) a (216 : Nat) M := rfl
    rw [e]
    unfold g_X12_ring_45B
    rw [if_pos (by omega)]
    exact ⟨M, s, rfl, hB, R, K, FrO.rfl⟩
  | succ m ih =>
    intro r f M s hr h1 hf R K hB
    obtain ⟨f, rfl⟩ : ∃ g, f = g + 1 := ⟨f - 1, by omega⟩
    have e : g_X12_ring_45 k33 (f + 1) t w s.1 s.2.1 (s.2.2 : Int) a r M = g_X12_ring_45B k33 (g_X12_ring_45 k33 f) t w s.1 s.2.1 (s.2.2 : Int) a r M := rfl
    rw [e]
    unfold g_X12_ring_45B
    rw [if_neg (by omega)]
    obtain ⟨M1, a1, a2, a3, a4⟩ := R_along R K W (r := r) (by omega) (to := t) ht ha
    have hv := Vr_r (r := r) W R.2.2.2.2.2 t t ha
    rw [a1]
    simp only [bindS]
    have hq := Bst_q hB h1
    unfold stq at hq
    unfold g_X12_ring_70 g_X12_ring_91
    rw [w64_id (by omega) (by omega), w32_id (x := (r : Int) + 1) (by omega) (by omega), show (r : Int) + 1 = ((r + 1 : Nat) : Int) by omega]
    by_cases c : s.1 < Vr N T L po t t a r - a
    · rw [if_pos c]
      rw [if_pos c] at hq
      obtain ⟨M', s', g1, g2, g3, g4, g5⟩ := ih (r + 1) f M1 (Vr N T L po t t a r - a, a, r) (by omega) (by omega) (by omega) a2 a3 hq
      exact ⟨M', s', g1, g2, g3, g4, a4.trans g5⟩
    · rw [if_neg c]
      rw [if_neg c] at hq
      obtain ⟨M', s', g1, g2, g3, g4, g5⟩ := ih (r + 1) f M1 s (by omega) (by omega) (by omega) a2 a3 hq
      exact ⟨M', s', g1, g2, g3, g4, a4.trans g5⟩
theorem R_ring_out (W : WF N T L th pe po) (h12 : L.length ≤ 12) (ht : 0 ≤ t ∧ t < 5) {w : Int} (hw : 0 ≤ w ∧ w ≤ 5) : ∀ (m k f : Nat) (M : MZ), k + m = 5 → m < f → RepR M N T L th pe po → KON M → ∃ M', g_X12_ring_33 f t w (rgS N T L po t k).1 (rgS N T L po t k).2.1 ((rgS N T L po t k).2.2 : Int) (rgA k) M = some (rgV w (rgS N T L po t 5), M') ∧ RepR M' N T L th pe po ∧ KON M' ∧ FrO M M' := by
  intro m
  induction m with
  | zero =>
    intro k f M hk hf R K
    obtain ⟨f, rfl⟩ : ∃ g, f = g + 1 := ⟨f - 1, by omega⟩
    obtain rfl : k = 5 := by omega
    have hs := rgS_r (t := t) W h12 5 (by omega)
    have eA : rgA 5 = 100000 := rfl
    have e : g_X12_ring_33 (f + 1) t w (rgS N T L po t 5).1 (rgS N T L po t 5).2.1 ((rgS N T L po t 5).2.2 : Int) (rgA 5) M = g_X12_ring_33B (g_X12_ring_33 f) t w (rgS N T L po t 5).1 (rgS N T L po t 5).2.1 ((rgS N T L po t 5).2.2 : Int) (rgA 5) M := rfl
    rw [e]
    generalize rgS N T L po t 5 = s at *
    refine ⟨M, ?_, R, K, FrO.rfl⟩
    unfold g_X12_ring_33B rgV g_X12_ring_166
    rw [eA, if_pos (by omega)]
    by_cases c0 : s.1 = 0
    · rw [if_pos c0, if_pos c0]
    rw [if_neg c0, if_neg c0]
    by_cases c1 : w = 0
    · rw [if_pos c1, if_pos c1]
    rw [if_neg c1, if_neg c1]
    by_cases c2 : w = 1
    · rw [if_pos c2, if_pos c2]
    rw [if_neg c2, if_neg c2]
    rw [R_lengthOf]
    simp only [bindS]
    by_cases c3 : w = 2
    · rw [if_pos c3, if_pos c3]
    rw [if_neg c3, if_neg c3, w32_id (x := w - 3) (by omega) (by omega)]
    by_cases c4 : (rlen s.2.2 : Int) ≤ w - 3
    · rw [if_pos c4, if_pos c4]
    · obtain ⟨j, ej⟩ : ∃ j : Nat, w - 3 = j := ⟨(w - 3).toNat, by omega⟩
      rw [ej] at c4 ⊢
      rw [if_neg c4, if_neg c4, R_poolIn hs.2.2.1 (by omega), Int.toNat_natCast]
      rfl
  | succ m ih =>
    intro k f M hk hf R K
    obtain ⟨f, rfl⟩ : ∃ g, f = g + 1 := ⟨f - 1, by omega⟩
    have hs := rgS_r (t := t) W h12 k (by omega)
    have hA := rgA_r k (by omega)
    have e : g_X12_ring_33 (f + 1) t w (rgS N T L po t k).1 (rgS N T L po t k).2.1 ((rgS N T L po t k).2.2 : Int) (rgA k) M = g_X12_ring_33B (g_X12_ring_33 f) t w (rgS N T L po t k).1 (rgS N T L po t k).2.1 ((rgS N T L po t k).2.2 : Int) (rgA k) M := rfl
    rw [e]
    unfold g_X12_ring_33B
    rw [if_neg (by omega)]
    obtain ⟨M1, s1, b1, b2, b3, b4, b5⟩ := R_ring_in W ht (a := rgA k) (by omega) (s0 := rgS N T L po t k) (g_X12_ring_33 f) w 210 6 100000 M (rgS N T L po t k) (by omega) (by omega) (by omega) R K (Or.inl ⟨rfl, fun r hr => by omega⟩)
    have es : s1 = rgS N T L po t (k + 1) := by
      refine Bst_uniq (by omega) b2 (Bst_dfs (by omega) (by omega)) (fun r hr => ?_) (fun r hr => ?_)
      · rcases dfs_all r hr.2 with g | g | g
        · exact Or.inl g
        · omega
        · exact Or.inr (by rw [Vr_0 g]; omega)
      · have hx := dfs_ge r hr
        by_cases c : r < 6
        · exact Or.inr (by rw [Vr_1 W c]; omega)
        · exact Or.inl ⟨by omega, hx.2⟩
    rw [es, w32_id (by omega) (by omega), ← hA.2.2] at b1
    obtain ⟨M2, c1, c2, c3, c4⟩ := ih (k + 1) f M1 (by omega) (by omega) b3 b4
    refine ⟨M2, ?_, c2, c3, b5.trans c4⟩
    exact b1.trans c1
theorem K_ring (W : WF N T L th pe po) (ht : 0 ≤ t ∧ t < 5) {w : Int} (hw : 0 ≤ w ∧ w ≤ 5) : ∀ (m k f : Nat) (M : MZ), k + m = 5 → m < f → Rep true M 78 N T L th pe po → BS M (rgS N T L po t k) → ∃ M', g_X11_ring_32 f t w (rgA k) M = some (rgV w (rgS N T L po t 5), M') ∧ (∀ x, x ≠ 4 → ¬ (14 ≤ x ∧ x < 20) → sameH M M' x) := by
  intro m
  induction m with
  | zero =>
    intro k f M hk hf R hB
    obtain ⟨f, rfl⟩ : ∃ g, f = g + 1 := ⟨f - 1, by omega⟩
    obtain rfl : k = 5 := by omega
    have hs := rgS_r (t := t) W R.2.2.2.2.2.2 5 (by omega)
    have eA : rgA 5 = 100000 := rfl
    have e : g_X11_ring_32 (f + 1) t w (rgA 5) M = g_X11_ring_32B (g_X11_ring_32 f) t w (rgA 5) M := rfl
    rw [e]
    generalize rgS N T L po t 5 = s at *
    refine ⟨M, ?_, fun _ _ _ => sameH.rfl⟩
    unfold g_X11_ring_32B rgV
    have hB' := hB
    obtain ⟨b1, b2, b3, b4, b5⟩ := hB'
    rw [eA, if_pos (by omega), b1, b2, b3]
    by_cases c0 : s.1 = 0
    · rw [if_pos c0, if_pos (by unfold rl; rw [if_pos (hs.2.2.2.1 c0)]; rfl)]
    have c0' : s.2.2 ≠ 0 := fun q => c0 (hs.2.2.2.2 q)
    have erl : rl s.2.2 = rlen s.2.2 := if_neg c0'
    have hr3 := rlen_r s.2.2
    rw [if_neg c0, if_neg (by rw [erl]; omega)]
    by_cases c1 : w = 0
    · rw [if_pos c1, if_pos c1]
    rw [if_neg c1, if_neg c1]
    by_cases c2 : w = 1
    · rw [if_pos c2, if_pos c2]
    rw [if_neg c2, if_neg c2]
    by_cases c3 : w = 2
    · rw [if_pos c3, if_pos c3, erl]
    rw [if_neg c3, if_neg c3, w32_id (x := w - 3) (by omega) (by omega), K_bestPool hB (by omega) c0']
    simp only [bindS]
  | succ m ih =>
    intro k f M hk hf R hB
    obtain ⟨f, rfl⟩ : ∃ g, f = g + 1 := ⟨f - 1, by omega⟩
    have hA := rgA_r k (by omega)
    have e : g_X11_ring_32 (f + 1) t w (rgA k) M = g_X11_ring_32B (g_X11_ring_32 f) t w (rgA k) M := rfl
    rw [e]
    unfold g_X11_ring_32B
    rw [if_neg (by omega)]
    obtain ⟨M1, s1, s2, s3⟩ := K_search b78 R W (fr := t) (to := t) (a := rgA k) ht ht.1 (by omega) hB
    rw [s1]
    simp only [bindS]
    rw [w32_id (by omega) (by omega), ← hA.2.2]
    obtain ⟨M2, c1, c2⟩ := ih (k + 1) f M1 (by omega) (by omega) (R.same (fun h h1 h2 => s3 h (by omega) (by omega))) s2
    exact ⟨M2, c1, fun x h1 h2 => (s3 x h1 h2).trans (c2 x h1 h2)⟩
theorem q_ring {M : MZ} (h : IV M) (t w : Int) : ∃ r M1 M2, g_X11_ring t w M = some (r, M1) ∧ g_X12_ring t w M1 = some (r, M2) ∧ IV M2 := by
  have h0 := h
  obtain ⟨N, T, L, th, pe, po, R, RR, W, hM, hk, ht, hH, K, hA⟩ := h
  have hpe := W.1.r
  have h12 := R.2.2.2.2.2.2
  unfold g_X11_ring g_X11_ring_20
  rw [K_hasThing b78, R.1.1]
  simp only [bindS, bI_0]
  by_cases hw : 0 ≤ t ∧ t < th
  case neg =>
    rw [if_pos hw]
    refine ⟨_, M, M, rfl, ?_, h0⟩
    unfold g_X12_ring g_X12_ring_20
    rw [R_isThing, RR.1.1]
    simp only [bindS, bI_0]
    rw [if_pos hw]
  case pos =>
    rw [if_neg (fun q => q hw)]
    by_cases hi : 0 ≤ w ∧ w ≤ 5
    case neg =>
      have e : ∀ X : Option (Int × MZ), (if w < 0 then some ((-1 : Int), M) else if w ≤ 5 then X else some (-1, M)) = some (-1, M) := by
        intro X
        by_cases c : w < 0
        · rw [if_pos c]
        · rw [if_neg c, if_neg (by omega)]
      rw [e]
      refine ⟨-1, M, M, rfl, ?_, h0⟩
      unfold g_X12_ring g_X12_ring_20
      rw [R_isThing, RR.1.1]
      simp only [bindS, bI_0]
      rw [if_neg (fun q => q hw), R_isIn]
      simp only [bindS, bI_0]
      rw [if_pos hi]
    case pos =>
      rw [if_neg (show ¬ w < 0 by omega), if_pos hi.2]
      unfold g_X1_forget
      simp only [bindS]
      have F0 : ∀ x, x ≠ 14 → sameH M (uI (uI (uL M 14 0 0) 14 1 0) 14 2 0) x := fun x h1 => ((sameH_uL h1).trans (sameH_uI h1)).trans (sameH_uI h1)
      have B0 : BS (uI (uI (uL M 14 0 0) 14 1 0) 14 2 0) (0, 0, 0) := ⟨rfl, rfl, rfl, by show (0 : Nat) < 216; omega, fun j hj => absurd hj (by show ¬ j < 0; omega)⟩
      generalize uI (uI (uL M 14 0 0) 14 1 0) 14 2 0 = M0 at *
      have R0 : Rep true M0 78 N T L th pe po := R.same (fun h h1 h2 => F0 h (by omega))
      obtain ⟨M1, s1, s3⟩ := K_ring W (t := t) (by omega) hi 5 0 100000 M0 (by omega) (by omega) R0 B0
      have F1 : ∀ x, x ≠ 4 → ¬ (14 ≤ x ∧ x < 20) → sameH M M1 x := fun x h1 h2 => (F0 x (by omega)).trans (s3 x h1 h2)
      have RR1 : RepR M1 N T L th pe po := RR.same (fun h h1 h2 => F1 h (by omega) (by omega))
      have K1 : KON M1 := K.mv (fun x hx => F1 x (by omega) (by omega))
      obtain ⟨M2, t1, t4, t5, t6⟩ := R_ring_out W h12 (t := t) (by omega) hi 5 0 100000 M1 (by omega) (by omega) RR1 K1
      have hIV : IV M2 := IV_mk3 (fun x h1 h2 h3 => F1 x h1 h2) (HP.same (fun i _ => (F1 146 (by omega) (by omega) i).2.2) hH) t6.1 (t6.2.1 8 (by omega)) R t4 W hM hk ht t5 hA
      refine ⟨rgV w (rgS N T L po t 5), M1, M2, s1, ?_, hIV⟩
      unfold g_X12_ring g_X12_ring_20
      rw [R_isThing, RR1.1.1]
      simp only [bindS, bI_0]
      rw [if_neg (fun q => q hw), R_isIn]
      simp only [bindS, bI_0]
      rw [if_neg (fun q => q hi)]
      exact t1
theorem ok_ring (x y : Int32) : SO INV (f_X11_ring x y) (f_X12_ring x y) := SO_of (IV := IV) (fun _ => l_X11_ring rfl rfl rfl) (fun _ => l_X12_ring rfl rfl rfl) (fun _ h => q_ring h _ _)
end RG
