/-! the text of a bundle: least, times, add, much -/
theorem KON.rh {i : Nat} {M M' : MZ} (K : KON M) (f : RH i M M') : KON M' := ⟨fun j hj => by rw [(f.1 21 (by omega) (by omega) (by omega) j).2.1]; exact K.1 j hj, fun j h1 h2 => by rw [f.2.2.1]; exact K.2.1 j h1 h2, fun j hj => by rw [(f.1 33 (by omega) (by omega) (by omega) j).2.1]; exact K.2.2 j hj⟩
def PSp (Mc Mr : MZ) (i : Nat) : Prop := zI Mc (38 + i) 2 = zI Mr 30 (4 * i) ∧ (0 ≤ zI Mr 30 (4 * i) ∧ zI Mr 30 (4 * i) ≤ 4) ∧ zI Mc (38 + i) 3 = zI Mr 30 (4 * i + 1) ∧ (0 ≤ zI Mr 30 (4 * i + 1) ∧ zI Mr 30 (4 * i + 1) ≤ 1)
def RGp (Mc Mr : MZ) (i : Nat) : Prop := zI Mc (38 + i) 2 = zI Mr 30 (4 * i) ∧ (0 ≤ zI Mr 30 (4 * i) ∧ zI Mr 30 (4 * i) ≤ 4) ∧ zI Mc (38 + i) 4 = zI Mr 30 (4 * i + 1) ∧ (0 ≤ zI Mr 30 (4 * i + 1) ∧ zI Mr 30 (4 * i + 1) ≤ 40) ∧ zI Mc (38 + i) 5 = zI Mr 30 (4 * i + 2) ∧ (0 ≤ zI Mr 30 (4 * i + 2) ∧ zI Mr 30 (4 * i + 2) ≤ 40)
def MUp (Mc Mr : MZ) (i : Nat) : Prop := zI Mc (38 + i) 8 = zI Mr 31 i ∧ (0 ≤ zI Mr 31 i ∧ zI Mr 31 i ≤ 2) ∧ (zI Mr 31 i = 0 → zI Mc (38 + i) 7 = zI Mr 30 (4 * i + 2) ∧ (0 ≤ zI Mr 30 (4 * i + 2) ∧ zI Mr 30 (4 * i + 2) ≤ 9999999))
def AMp (Mc Mr : MZ) (i : Nat) : Prop := zI Mc (38 + i) 7 = zI Mr 30 (4 * i + 3) ∧ (1 ≤ zI Mr 30 (4 * i + 3) ∧ zI Mr 30 (4 * i + 3) ≤ 99999)
def LEp (Mc Mr : MZ) (i : Nat) : Prop := zI Mc (38 + i) 6 = zI Mr 30 (4 * i) ∧ (0 ≤ zI Mr 30 (4 * i) ∧ zI Mr 30 (4 * i) ≤ 4) ∧ zI Mc (38 + i) 7 = zI Mr 30 (4 * i + 1) ∧ (0 ≤ zI Mr 30 (4 * i + 1) ∧ zI Mr 30 (4 * i + 1) ≤ 9999999)
def TMp (Mc Mr : MZ) (i : Nat) : Prop := zI Mc (38 + i) 7 = zI Mr 30 (4 * i) ∧ (0 ≤ zI Mr 30 (4 * i) ∧ zI Mr 30 (4 * i) ≤ 20)
section BP
variable {n : Nat} {B : Nat → Int}
theorem sim_le (b : BO n B) {j i : Nat} (hi : i < 40) {Mc Mr : MZ} (s : SR n B j Mc Mr) : ∃ (fl : Int) (Mc' Mr' : MZ), g_X6_readLeast (38 + i) Mc = some (fl, Mc') ∧ g_X12_readsNumbers i 2 4 9999999 0 Mr = some (fl, Mr') ∧ Pc n B (38 + i) i fl Mc Mr Mc' Mr' (LEp Mc' Mr' i) := by
  have hk := kdt i hi
  have r0 : g_X12_readsNumbers i 2 4 9999999 0 Mr = _ := R_rn (i := i) (many := 2) (k := 0) hi (by omega) (by omega) 99999 4 9999999 0 Mr
  unfold g_X6_readLeast g_X6_readAmount
  rw [r0, if_pos rfl]
  obtain ⟨f1, Mc1, Mr1, a1, a2, a3, a4, a5⟩ := sim_w b (h := 38 + i) (i := i) (f := 6) (c := 4 * i + 0) (by omega) (by omega) (by omega) s 0 4
  rw [a1, a2]
  simp only [bindS]
  rcases a5 with ⟨e1, v1, x1, x2, x3, j1, s1⟩ | ⟨e1, x1⟩
  case inr =>
    rw [e1, if_pos rfl, if_pos rfl]
    exact ⟨0, Mc1, Mr1, rfl, rfl, a3.ch (by omega), a4.rh i, Or.inr ⟨rfl, x1⟩⟩
  case inl =>
    rw [e1, if_neg (by omega), if_pos hk, if_neg (by omega), x1, x2, R_rn (k := 0 + 1) hi (by omega) (by omega) 99998, if_neg (by omega), if_pos rfl]
    obtain ⟨f2, Mc2, Mr2, b1, b2, b3, b4, b5⟩ := sim_w b (h := 38 + i) (i := i) (f := 7) (c := 4 * i + (0 + 1)) (by omega) (by omega) (by omega) s1 0 9999999
    rw [b1, b2]
    simp only [bindS]
    have F1 : CH (38 + i) Mc Mc2 := ((a3.ch (by omega)).trans (CH_u (by omega) (by omega))).trans (b3.ch (by omega))
    have G1 : RH i Mr Mr2 := ((a4.rh i).trans (RH_30 (by omega))).trans (b4.rh i)
    rcases b5 with ⟨e2, v2, y1, y2, y3, j2, s2⟩ | ⟨e2, y1⟩
    case inr =>
      rw [e2, if_pos rfl, if_pos rfl]
      simp only [bindS]
      exact ⟨0, Mc2, Mr2, if_pos (Or.inl trivial), rfl, F1, G1, Or.inr ⟨rfl, y1⟩⟩
    case inl =>
      rw [e2, if_neg (by omega), if_pos hk, if_neg (by omega), y1, y2, R_rn_end 99997]
      simp only [bindS]
      refine ⟨1, _, _, if_pos (Or.inr trivial), rfl, F1.trans (CH_u (by omega) (by omega)), G1.trans (RH_30 (by omega)), Or.inl ⟨rfl, ⟨j2, s2⟩, ?_⟩⟩
      have p1 : zI (uI Mc2 (38 + i) 7 v2) (38 + i) 6 = v1 := by rw [zI_uI, if_neg (by omega), (b3.1 (38 + i) (by omega) 6).1, zI_at]
      have p2 : zI (uI Mr2 30 (4 * i + (0 + 1)) v2) 30 (4 * i) = v1 := by rw [zI_uI, if_neg (by omega), (b4.1 30 (by omega) (4 * i)).1]; exact zI_at _ _ _ _
      have p3 : zI (uI Mc2 (38 + i) 7 v2) (38 + i) 7 = v2 := zI_at _ _ _ _
      have p4 : zI (uI Mr2 30 (4 * i + (0 + 1)) v2) 30 (4 * i + 1) = v2 := zI_at _ _ _ _
      unfold LEp
      rw [p1, p2, p3, p4]
      exact ⟨rfl, x3, rfl, y3⟩
theorem sim_tm (b : BO n B) {j i : Nat} (hi : i < 40) {Mc Mr : MZ} (s : SR n B j Mc Mr) : ∃ (fl : Int) (Mc' Mr' : MZ), g_X6_readAmount (38 + i) 0 20 Mc = some (fl, Mc') ∧ g_X12_readsNumbers i 1 20 0 0 Mr = some (fl, Mr') ∧ Pc n B (38 + i) i fl Mc Mr Mc' Mr' (TMp Mc' Mr' i) := by
  have hk := kdt i hi
  have r0 : g_X12_readsNumbers i 1 20 0 0 Mr = _ := R_rn (i := i) (many := 1) (k := 0) hi (by omega) (by omega) 99999 20 0 0 Mr
  unfold g_X6_readAmount
  rw [r0, if_pos rfl]
  obtain ⟨f1, Mc1, Mr1, a1, a2, a3, a4, a5⟩ := sim_w b (h := 38 + i) (i := i) (f := 7) (c := 4 * i + 0) (by omega) (by omega) (by omega) s 0 20
  rw [a1, a2]
  simp only [bindS]
  rcases a5 with ⟨e1, v1, x1, x2, x3, j1, s1⟩ | ⟨e1, x1⟩
  case inr =>
    rw [e1, if_pos rfl, if_pos rfl]
    exact ⟨0, Mc1, Mr1, rfl, rfl, a3.ch (by omega), a4.rh i, Or.inr ⟨rfl, x1⟩⟩
  case inl =>
    rw [e1, if_neg (by omega), if_pos hk, if_neg (by omega), x1, x2, R_rn_end 99998]
    refine ⟨1, _, _, rfl, rfl, (a3.ch (by omega)).trans (CH_u (by omega) (by omega)), (a4.rh i).trans (RH_30 (by omega)), Or.inl ⟨rfl, ⟨j1, s1⟩, ?_⟩⟩
    have p1 : zI (uI Mc1 (38 + i) 7 v1) (38 + i) 7 = v1 := zI_at _ _ _ _
    have p2 : zI (uI Mr1 30 (4 * i + 0) v1) 30 (4 * i) = v1 := zI_at _ _ _ _
    unfold TMp
    rw [p1, p2]
    exact ⟨rfl, x3⟩
/-- the liquidity of an add -/
theorem sim_am (b : BO n B) {j i : Nat} (hi : i < 40) {Mc Mr : MZ} (s : SR n B j Mc Mr) : ∃ (fl : Int) (Mc' Mr' : MZ), g_X6_readAmount (38 + i) 1 99999 Mc = some (fl, Mc') ∧ g_X12_reads 1 99999 Mr = some (fl, Mr') ∧ Pc n B (38 + i) i fl Mc Mr Mc' (uI Mr' 30 (4 * i + 3) (zI Mr' 20 11)) (AMp Mc' (uI Mr' 30 (4 * i + 3) (zI Mr' 20 11)) i) ∧ (∀ k, k ≠ 7 → zI Mc' (38 + i) k = zI Mc (38 + i) k) ∧ (∀ k, k ≠ 4 * i + 3 → zI (uI Mr' 30 (4 * i + 3) (zI Mr' 20 11)) 30 k = zI Mr 30 k) := by
  have hk := kdt i hi
  unfold g_X6_readAmount
  obtain ⟨f1, Mc1, Mr1, a1, a2, a3, a4, a5⟩ := sim_w b (h := 38 + i) (i := i) (f := 7) (c := 4 * i + 3) (by omega) (by omega) (by omega) s 1 99999
  rw [a1, a2]
  simp only [bindS]
  have hr : ∀ k, k ≠ 4 * i + 3 → zI (uI Mr1 30 (4 * i + 3) (zI Mr1 20 11)) 30 k = zI Mr 30 k := fun k hk => by rw [zI_uI, if_neg (by omega), (a4.1 30 (by omega) k).1]
  rcases a5 with ⟨e1, v1, x1, x2, x3, j1, s1⟩ | ⟨e1, x1⟩
  case inr =>
    rw [e1, if_pos rfl]
    exact ⟨0, Mc1, Mr1, rfl, rfl, ⟨a3.ch (by omega), (a4.rh i).trans (RH_30 (by omega)), Or.inr ⟨rfl, by rw [zI_uI, if_neg (by omega)]; exact x1⟩⟩, fun k _ => (a3.1 (38 + i) (by omega) k).1, hr⟩
  case inl =>
    rw [e1, if_neg (by omega), if_pos hk, x1]
    refine ⟨1, _, Mr1, rfl, rfl, ⟨(a3.ch (by omega)).trans (CH_u (by omega) (by omega)), (a4.rh i).trans (RH_30 (by omega)), Or.inl ⟨rfl, ⟨j1, by rw [x2]; exact s1⟩, ?_⟩⟩, fun k hk => by rw [zI_uI, if_neg (by omega), (a3.1 (38 + i) (by omega) k).1], hr⟩
    have p1 : zI (uI Mc1 (38 + i) 7 v1) (38 + i) 7 = v1 := zI_at _ _ _ _
    have p2 : zI (uI Mr1 30 (4 * i + 3) (zI Mr1 20 11)) 30 (4 * i + 3) = v1 := by rw [zI_at]; exact x2
    unfold AMp
    rw [p1, p2]
    exact ⟨rfl, x3⟩
theorem wdB : (words0.getD 15 0).toInt = 257 ∧ (words0.getD 16 0).toInt = 11522 ∧ (words0.getD 17 0).toInt = 841 ∧ (words0.getD 18 0).toInt = 92275 ∧ (words0.getD 19 0).toInt = 6476969 ∧ (words0.getD 20 0).toInt = 240223 ∧ (words0.getD 21 0).toInt = 10815598 ∧ (words0.getD 22 0).toInt = 1065 ∧ (words0.getD 23 0).toInt = 5528 := by decide +kernel
theorem wdS : (steps0.getD 0 0).toInt = 257 ∧ (steps0.getD 1 0).toInt = 11522 ∧ (steps0.getD 2 0).toInt = 841 ∧ (steps0.getD 3 0).toInt = 92275 ∧ (steps0.getD 4 0).toInt = 6476969 ∧ (steps0.getD 5 0).toInt = 240223 ∧ (steps0.getD 6 0).toInt = 10815598 := by decide +kernel
theorem sim_much (b : BO n B) {j i : Nat} (hi : i < 40) {Mc Mr : MZ} (K : KON Mr) (s : SR n B j Mc Mr) : ∃ (fl : Int) (Mc' Mr' : MZ), g_X6_readMuch (38 + i) Mc = some (fl, Mc') ∧ g_X12_readsMuch i Mr = some (fl, Mr') ∧ Pc n B (38 + i) i fl Mc Mr Mc' Mr' (MUp Mc' Mr' i) ∧ (∀ k, k ≠ 7 → k ≠ 8 → zI Mc' (38 + i) k = zI Mc (38 + i) k) ∧ (∀ k, k ≠ 4 * i + 2 → zI Mr' 30 k = zI Mr 30 k) := by
  have hk := kdt i hi
  have hi40 : (0 : Int) ≤ (i : Int) ∧ (i : Int) < ((40 : Nat) : Int) := by omega
  have hi160 : (0 : Int) ≤ ((4 * i + 2 : Nat) : Int) ∧ ((4 * i + 2 : Nat) : Int) < ((160 : Nat) : Int) := by omega
  have s0 : SR n B j (uI Mc (38 + i) 8 0) (uI Mr 31 i 0) := s.ch (h := 38 + i) (i := i) (by omega) (CH_u (by omega) (by omega)) RH_31 (by rw [zI_uI, if_neg (by omega)]) (by rw [zI_uI, if_neg (by omega)])
  obtain ⟨j1, Mc1, Mr1, a1, a2, a3, a4, a5, a6, a7, a8, a9⟩ := sim_peek b s0
  have F0 : CH (38 + i) Mc Mc1 := (CH_u (by omega) (by omega)).trans (a4.ch (by omega))
  have G0 : RH i Mr Mr1 := RH_31.trans (a5.rh i)
  have K1 := K.rh G0
  have c8 : zI Mc1 (38 + i) 8 = 0 := by rw [(a4.1 (38 + i) (by omega) 8).1, zI_at]
  have r31 : zI Mr1 31 i = 0 := by rw [(a5.1 31 (by omega) i).1, zI_at]
  have f8 : ∀ k, k ≠ 8 → zI Mc1 (38 + i) k = zI Mc (38 + i) k := fun k hk => by rw [(a4.1 (38 + i) (by omega) k).1, zI_uI, if_neg (by omega)]
  have f30 : ∀ k, zI Mr1 30 k = zI Mr 30 k := fun k => by rw [(a5.1 30 (by omega) k).1, zI_uI, if_neg (by omega)]
  unfold g_X6_readMuch g_X12_readsMuch
  rw [if_pos hk, if_pos hi40, Int.toNat_natCast, a1, a2]
  simp only [bindS]
  rw [K_isDigit, R_isDigit]
  simp only [bindS, bI_0]
  by_cases cd : 48 ≤ B j1 ∧ B j1 ≤ 57
  · rw [if_neg (fun q => q cd), if_neg (fun q => q cd)]
    unfold g_X6_readAmount
    obtain ⟨f1, Mc2, Mr2, b1, b2, b3, b4, b5⟩ := sim_w b (h := 38 + i) (i := i) (f := 7) (c := 4 * i + 2) (by omega) (by omega) (by omega) a3 0 9999999
    rw [b1, b2]
    simp only [bindS]
    rw [w32_id (x := 4 * (i : Int)) (by omega) (by omega), w32_id (x := 4 * (i : Int) + 2) (by omega) (by omega), show 4 * (i : Int) + 2 = ((4 * i + 2 : Nat) : Int) by omega, if_pos hi160, Int.toNat_natCast]
    have hr : ∀ k, k ≠ 4 * i + 2 → zI (uI Mr2 30 (4 * i + 2) (zI Mr2 20 11)) 30 k = zI Mr 30 k := fun k hk => by rw [zI_uI, if_neg (by omega), (b4.1 30 (by omega) k).1, f30]
    have G2 : RH i Mr (uI Mr2 30 (4 * i + 2) (zI Mr2 20 11)) := (G0.trans (b4.rh i)).trans (RH_30 (by omega))
    rcases b5 with ⟨e1, v1, x1, x2, x3, j2, s2⟩ | ⟨e1, x1⟩
    case inr =>
      rw [e1, if_pos rfl]
      simp only [bindS]
      exact ⟨0, Mc2, _, if_pos (Or.inl trivial), if_pos (Or.inl trivial), ⟨F0.trans (b3.ch (by omega)), G2, Or.inr ⟨rfl, by rw [zI_uI, if_neg (by omega)]; exact x1⟩⟩, fun k h7 h8 => by rw [(b3.1 (38 + i) (by omega) k).1, f8 k h8], hr⟩
    case inl =>
      rw [e1, if_neg (by omega), if_pos hk, x1]
      simp only [bindS]
      refine ⟨1, _, _, if_pos (Or.inr trivial), if_pos (Or.inr trivial), ⟨(F0.trans (b3.ch (by omega))).trans (CH_u (by omega) (by omega)), G2, Or.inl ⟨rfl, ⟨j2, by rw [x2]; exact s2⟩, ?_⟩⟩, fun k h7 h8 => by rw [zI_uI, if_neg (by omega), (b3.1 (38 + i) (by omega) k).1, f8 k h8], hr⟩
      have p1 : zI (uI Mc2 (38 + i) 7 v1) (38 + i) 8 = 0 := by rw [zI_uI, if_neg (by omega), (b3.1 (38 + i) (by omega) 8).1, c8]
      have p2 : zI (uI Mr2 30 (4 * i + 2) (zI Mr2 20 11)) 31 i = 0 := by rw [zI_uI, if_neg (by omega), (b4.1 31 (by omega) i).1, r31]
      have p3 : zI (uI Mc2 (38 + i) 7 v1) (38 + i) 7 = v1 := zI_at _ _ _ _
      have p4 : zI (uI Mr2 30 (4 * i + 2) (zI Mr2 20 11)) 30 (4 * i + 2) = v1 := by rw [zI_at]; exact x2
      unfold MUp
      rw [p1, p2, p3, p4]
      exact ⟨rfl, by omega, fun _ => ⟨rfl, x3⟩⟩
  · rw [if_pos cd, if_pos cd]
    obtain ⟨ss, m, w, Mc2, Mr2, b1, b2, b3, b4, b5, b6, b7, b8, b9, b10, b11, b12⟩ := sim_word b a3
    have T2 := a3.1.mv b3
    have R2 := a3.2.1.mv b4
    have K2 := K1.rf b4
    have F2 := F0.trans (b3.ch (h := 38 + i) (by omega))
    have G2 := G0.trans (b4.rh i)
    obtain ⟨_, _, _, _, _, _, _, d22, d23⟩ := wdB
    have k22 : zL Mr2 20 22 = 1065 := by rw [K2.2.1 22 (by omega) (by omega)]; exact d22
    have k23 : zL Mr2 20 23 = 5528 := by rw [K2.2.1 23 (by omega) (by omega)]; exact d23
    have f8' : ∀ k, k ≠ 8 → zI Mc2 (38 + i) k = zI Mc (38 + i) k := fun k hk => by rw [(b3.1 (38 + i) (by omega) k).1, f8 k hk]
    have f30' : ∀ k, zI Mr2 30 k = zI Mr 30 k := fun k => by rw [(b4.1 30 (by omega) k).1, f30]
    rw [b1, b2]
    simp only [bindS]
    rw [k22, k23, b5]
    have rfb : ((g_X12_fails 0 ss Mr2).bind fun q => if q.1 = 0 ∨ q.1 = 1 then some (q.1, q.2) else none) = some (0, uI Mr2 20 10 (fz 0 ss)) := R_failb 0 ss Mr2
    have GF : RH i Mr (uI Mr2 20 10 (fz 0 ss)) := G2.trans ((RF_u (by omega)).rh i)
    by_cases c0 : m = 0
    · obtain ⟨z1, z2⟩ := b10 c0
      rw [if_neg (show ¬ 0 < m by omega), if_pos rfl, if_neg (show ¬ w = 1065 by omega), if_neg (show ¬ w = 5528 by omega), rfb]
      exact ⟨0, Mc2, _, rfl, rfl, ⟨F2, GF, Or.inr ⟨rfl, by rw [zI_at, z1]⟩⟩, fun k _ h8 => f8' k h8, fun k _ => by rw [zI_uI, if_neg (by omega), f30']⟩
    rw [if_pos (show 0 < m by omega), if_neg (show ¬ (1 : Int) = 0 by omega)]
    obtain ⟨fa, u1, u2⟩ := b11 Mc2 T2 b7 b8 10 (by omega)
    have u1' : g_X9_wordIs 311 Mc2 = some (fa, Mc2) := u1
    have u2' : fa = 1 ∧ w = 1065 ∨ fa = 0 ∧ w ≠ 1065 := by rw [← d22]; exact u2
    -- the word is passed
    have pass : ∀ x : Int, ∃ M3, ((g_X12_passWord (uI Mr2 31 i x)).bind fun q95 => some ((1 : Int), q95.2)) = some (1, M3) ∧ RH i Mr M3 ∧ (∀ v, SR n B (ss + m) (uI Mc2 (38 + i) 8 v) M3) ∧ zI M3 31 i = x ∧ (∀ k, zI M3 30 k = zI Mr 30 k) := by
      intro x
      have RHx : RH i Mr2 (uI Mr2 31 i x) := RH_31
      have TRx : TR n B (uI Mr2 31 i x) := ⟨by rw [zI_uI, if_neg (by omega)]; exact R2.1, fun k hk => by rw [zI_uI, if_neg (by omega)]; exact R2.2 k hk⟩
      obtain ⟨M3, q1, q2, q3⟩ := b12 (uI Mr2 31 i x) TRx (by rw [zI_uI, if_neg (by omega)]; exact b5)
      refine ⟨M3, by rw [q1]; rfl, (G2.trans RHx).trans (q2.rh i), fun v => ⟨⟨by rw [zI_uI, if_neg (by omega)]; exact T2.1, fun k hk => by rw [zI_uI, if_neg (by omega)]; exact T2.2 k hk⟩, TRx.mv q2, by rw [zI_uI, if_neg (by omega)]; exact b6, q3, b9⟩, by rw [(q2.1 31 (by omega) i).1, zI_at], fun k => by rw [(q2.1 30 (by omega) k).1, zI_uI, if_neg (by omega), f30']⟩
    have fin : ∀ x : Int, (x = 1 ∨ x = 2) → ∃ Mr', ((g_X12_passWord (uI Mr2 31 i x)).bind fun q95 => some ((1 : Int), q95.2)) = some (1, Mr') ∧ Pc n B (38 + i) i 1 Mc Mr (uI Mc2 (38 + i) 8 x) Mr' (MUp (uI Mc2 (38 + i) 8 x) Mr' i) ∧ (∀ k, k ≠ 7 → k ≠ 8 → zI (uI Mc2 (38 + i) 8 x) (38 + i) k = zI Mc (38 + i) k) ∧ (∀ k, k ≠ 4 * i + 2 → zI Mr' 30 k = zI Mr 30 k) := by
      intro x hx
      obtain ⟨M3, p1, p2, p3, p4, p5⟩ := pass x
      refine ⟨M3, p1, ⟨F2.trans (CH_u (by omega) (by omega)), p2, Or.inl ⟨rfl, ⟨_, p3 x⟩, ?_⟩⟩, fun k _ h8 => by rw [zI_uI, if_neg (by omega), f8' k h8], fun k _ => p5 k⟩
      have y1 : zI (uI Mc2 (38 + i) 8 x) (38 + i) 8 = x := zI_at _ _ _ _
      unfold MUp
      rw [y1, p4]
      exact ⟨rfl, by omega, fun q => by omega⟩
    rw [u1']
    simp only [bindS]
    unfold g_X12_readsMuch_74 g_X12_readsMuch_93
    rw [k22, if_pos hi40, if_pos hi40, Int.toNat_natCast]
    rcases u2' with ⟨rfl, ew⟩ | ⟨rfl, nw⟩
    · rw [if_neg (show ¬ (1 : Int) = 0 by omega), if_pos ew, if_pos ew]
      obtain ⟨Mr', q1, q2, q3, q4⟩ := fin 1 (Or.inl rfl)
      exact ⟨1, _, Mr', rfl, q1, q2, q3, q4⟩
    · rw [if_pos (show (0 : Int) = 0 from rfl), if_neg nw, if_neg nw]
      have T3 : TC n B (uI Mc2 (38 + i) 8 2) := ⟨by rw [zI_uI, if_neg (by omega)]; exact T2.1, fun k hk => by rw [zI_uI, if_neg (by omega)]; exact T2.2 k hk⟩
      have b73 : zI (uI Mc2 (38 + i) 8 2) 2 3 = (ss : Int) := by rw [zI_uI, if_neg (by omega)]; exact b7
      obtain ⟨fg, w1, w2⟩ := b11 (uI Mc2 (38 + i) 8 2) T3 b73 (by rw [zI_uI, if_neg (by omega)]; exact b8) 11 (by omega)
      have w1' : g_X9_wordIs 312 (uI Mc2 (38 + i) 8 2) = some (fg, uI Mc2 (38 + i) 8 2) := w1
      have w2' : fg = 1 ∧ w = 5528 ∨ fg = 0 ∧ w ≠ 5528 := by rw [← d23]; exact w2
      rw [w1']
      simp only [bindS]
      unfold g_X6_readMuch_86 g_X6_readMuch_91
      rcases w2' with ⟨rfl, ew⟩ | ⟨rfl, ng⟩
      · rw [if_neg (show ¬ (1 : Int) = 0 by omega), if_pos (Or.inr rfl), if_pos ew]
        obtain ⟨Mr', q1, q2, q3, q4⟩ := fin 2 (Or.inr rfl)
        exact ⟨1, _, Mr', rfl, q1, q2, q3, q4⟩
      · rw [if_pos (show (0 : Int) = 0 from rfl), if_neg ng, rfb]
        have kb : g_X9_blameWord 0 (uI Mc2 (38 + i) 8 2) = some (0, uI (uI Mc2 (38 + i) 8 2) 2 1 (fz 0 ss)) := by
          unfold g_X9_blameWord g_X9_blame
          simp only [bindS]
          rw [b73, if_pos (Or.inl trivial)]
          rfl
        rw [kb]
        simp only [bindS]
        rw [if_pos trivial, if_pos (Or.inl trivial)]
        exact ⟨0, _, _, rfl, rfl, ⟨(F2.trans (CH_u (by omega) (by omega))).trans ((CF_u (by omega)).ch (by omega)), GF, Or.inr ⟨rfl, by rw [zI_at, zI_at]⟩⟩, fun k _ h8 => by rw [zI_uI, if_neg (by omega), zI_uI, if_neg (by omega), f8' k h8], fun k _ => by rw [zI_uI, if_neg (by omega), f30']⟩
end BP
