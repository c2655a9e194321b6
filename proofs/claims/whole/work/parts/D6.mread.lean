/-! reading a market: both side by side -/
section MR
variable {n : Nat} {B : Nat → Int}
theorem K_peek_stay (b : BO n B) {s : Nat} {M : MZ} (h : TC n B M) (h5 : zI M 2 5 = s) (hs : s ≤ n) (hB : B s ≠ 32) : g_X9_peek M = some (B s, M) := by
  have hb := b.1
  have e : g_X9_peek M = g_X9_peek_0B (g_X9_peek_0 99999) M := rfl
  rw [e]
  unfold g_X9_peek_0B g_X9_peek_37
  rw [h.1, h5, K_byteAt b h]
  simp only [bindS]
  rw [h5, K_byteAt b h]
  simp only [bindS]
  rw [if_neg hB]
  split <;> rfl
theorem R_next_stay (b : BO n B) {s : Nat} {M : MZ} (h : TR n B M) (h5 : zI M 20 9 = s) (hB : B s ≠ 32) : g_X12_next M = some (B s, M) := by
  have e : g_X12_next M = g_X12_next_0B (g_X12_next_0 99999) M := rfl
  rw [e]
  unfold g_X12_next_0B
  rw [h5, R_byteAt b h]
  simp only [bindS]
  rw [if_neg hB, h5, R_byteAt b h]
  simp only [bindS]
def NumOK (n : Nat) (B : Nat → Int) (lo hi fl : Int) (Mc' Mr' : MZ) : Prop := (fl = 1 ∧ (∃ j, SR n B j Mc' Mr') ∧ zI Mr' 20 11 = zI Mc' 2 2 ∧ lo ≤ zI Mc' 2 2 ∧ zI Mc' 2 2 ≤ hi) ∨ (fl = 0 ∧ zI Mr' 20 10 = zI Mc' 2 1)
theorem sim_num2 (b : BO n B) {i : Nat} {Mc Mr : MZ} (h : SR n B i Mc Mr) (lo hi : Int) : ∃ (s : Nat) (fl : Int) (Mc1 Mr1 Mc' Mr' : MZ), g_X9_peek Mc = some (B s, Mc1) ∧ g_X12_next Mr = some (B s, Mr1) ∧ zI Mc1 2 5 = s ∧ zI Mr1 20 9 = s ∧ g_X9_readNumber lo hi Mc = some (fl, Mc') ∧ g_X9_readNumber lo hi Mc1 = some (fl, Mc') ∧ g_X12_reads lo hi Mr1 = some (fl, Mr') ∧ g_X12_reads lo hi Mr = some (fl, Mr') ∧ CF Mc Mc' ∧ RF Mr Mr' ∧ NumOK n B lo hi fl Mc' Mr' := by
  obtain ⟨s, Mc1, Mr1, a1, a2, a3, a4, a5, a6, a7, a8, a9⟩ := sim_peek b h
  have a3' := a3
  obtain ⟨s1, s2, s3, s4, s5⟩ := a3'
  obtain ⟨fl, Mc', Mr', b1, b2, b3, b4, b5⟩ := sim_number b a3 lo hi
  have k1 := K_peek_stay b s1 s3 s5 a9
  have k2 := R_next_stay b s2 s4 a9
  refine ⟨s, fl, Mc1, Mr1, Mc', Mr', a1, a2, s3, s4, ?_, b1, b2, ?_, a4.trans b3, a5.trans b4, b5⟩
  · rw [← b1]
    unfold g_X9_readNumber
    rw [a1, k1]
  · rw [← b2]
    unfold g_X12_reads
    rw [a2, k2]
/-- what reading a market changes -/
def CM (M M' : MZ) : Prop := (∀ x, x ≠ 2 → ¬ (143 ≤ x ∧ x < 143 + 65) → sameH M M' x) ∧ zI M' 2 0 = zI M 2 0 ∧ (∀ k, zR M' 146 k = zR M 146 k)
def RM (M M' : MZ) : Prop := (∀ x, x ≠ 20 → x ≠ 26 → x ≠ 27 → sameH M M' x) ∧ (∀ k, k ≠ 9 → k ≠ 10 → k ≠ 11 → k ≠ 24 → k ≠ 25 → k ≠ 26 → zI M' 20 k = zI M 20 k) ∧ (∀ k, zL M' 20 k = zL M 20 k)
theorem CM.trans {M M' M'' : MZ} (a : CM M M') (c : CM M' M'') : CM M M'' := ⟨fun x h1 h2 => (a.1 x h1 h2).trans (c.1 x h1 h2), c.2.1.trans a.2.1, fun k => (c.2.2 k).trans (a.2.2 k)⟩
theorem RM.trans {M M' M'' : MZ} (a : RM M M') (c : RM M' M'') : RM M M'' := ⟨fun x h1 h2 h3 => (a.1 x h1 h2 h3).trans (c.1 x h1 h2 h3), fun k h1 h2 h3 h4 h5 h6 => (c.2.1 k h1 h2 h3 h4 h5 h6).trans (a.2.1 k h1 h2 h3 h4 h5 h6), fun k => (c.2.2 k).trans (a.2.2 k)⟩
theorem CF.cm {M M' : MZ} (a : CF M M') : CM M M' := ⟨fun x h1 _ => a.1 x h1, a.2, fun k => (a.1 146 (by omega) k).2.2⟩
theorem RF.rm {M M' : MZ} (a : RF M M') : RM M M' := ⟨fun x h1 _ _ => a.1 x h1, fun k h1 h2 h3 _ _ _ => a.2.1 k h1 h2 h3, a.2.2⟩
theorem CM_u {M : MZ} {x k : Nat} {v : Int} (hx : 143 ≤ x ∧ x < 143 + 65) : CM M (uI M x k v) := ⟨fun y h1 h2 => sameH_uI (by omega), by rw [zI_uI, if_neg (by omega)], fun _ => rfl⟩
theorem RM_u20 {M : MZ} {k : Nat} {v : Int} (hk : k = 24 ∨ k = 25 ∨ k = 26 ∨ k = 9 ∨ k = 10 ∨ k = 11) : RM M (uI M 20 k v) := ⟨fun x h1 _ _ => sameH_uI h1, fun j h1 h2 h3 h4 h5 h6 => by rw [zI_uI, if_neg (by omega)], fun _ => rfl⟩
theorem RM_u {M : MZ} {x k : Nat} {v : Int} (hx : x = 26 ∨ x = 27) : RM M (uI M x k v) := ⟨fun y h1 h2 h3 => sameH_uI (by omega), fun j h1 h2 h3 h4 h5 h6 => by rw [zI_uI, if_neg (by omega)], fun _ => rfl⟩
theorem SR.cm {i : Nat} {Mc Mr Mc' Mr' : MZ} (h : SR n B i Mc Mr) (a : CM Mc Mc') (c : RM Mr Mr') (h5 : zI Mc' 2 5 = zI Mc 2 5) (h9 : zI Mr' 20 9 = zI Mr 20 9) : SR n B i Mc' Mr' := by
  obtain ⟨s1, s2, s3, s4, s5⟩ := h
  exact ⟨⟨by rw [a.2.1]; exact s1.1, fun k hk => by rw [(a.1 3 (by omega) (by omega) k).1]; exact s1.2 k hk⟩, ⟨by rw [c.2.1 8 (by omega) (by omega) (by omega) (by omega) (by omega) (by omega)]; exact s2.1, fun k hk => by rw [(c.1 25 (by omega) (by omega) (by omega) k).1]; exact s2.2 k hk⟩, by rw [h5]; exact s3, by rw [h9]; exact s4, s5⟩
theorem KON.rm {M M' : MZ} (K : KON M) (f : RM M M') : KON M' := ⟨fun j hj => by rw [(f.1 21 (by omega) (by omega) (by omega) j).2.1]; exact K.1 j hj, fun j h1 h2 => by rw [f.2.2]; exact K.2.1 j h1 h2, fun j hj => by rw [(f.1 33 (by omega) (by omega) (by omega) j).2.1]; exact K.2.2 j hj⟩
/-- the start's root by a price -/
def SQ (pr v : Int) : Prop := (38554 ≤ v ∧ v ≤ 259374) ∧ (v = 38554 ∨ v * v ≤ pr) ∧ (v = 259374 ∨ pr < (v + 1) * (v + 1))
def PL (Mc Mr : MZ) (th : Int) (q : Nat) : Prop := (∀ j, j < 5 → zI Mc (143 + 2 + 2 + 5 * q) j = zI Mr 26 (7 * q + j)) ∧ ((0 ≤ zI Mr 26 (7 * q) ∧ zI Mr 26 (7 * q) < th) ∧ (0 ≤ zI Mr 26 (7 * q + 1) ∧ zI Mr 26 (7 * q + 1) < th) ∧ zI Mr 26 (7 * q) ≠ zI Mr 26 (7 * q + 1) ∧ (0 ≤ zI Mr 26 (7 * q + 2) ∧ zI Mr 26 (7 * q + 2) ≤ 99) ∧ (0 ≤ zI Mr 26 (7 * q + 3) ∧ zI Mr 26 (7 * q + 3) ≤ 100) ∧ (1 ≤ zI Mr 26 (7 * q + 4) ∧ zI Mr 26 (7 * q + 4) ≤ 10)) ∧ ((1 ≤ zI Mr 26 (7 * q + 5) ∧ zI Mr 26 (7 * q + 5) ≤ 9999) ∧ (1 ≤ zI Mr 26 (7 * q + 6) ∧ zI Mr 26 (7 * q + 6) ≤ 9999)) ∧ (∃ v, zI Mc (143 + 2 + 2 + 5 * q) 5 = v ∧ SQ (10000000000 * zI Mr 26 (7 * q + 5) / zI Mr 26 (7 * q + 6)) v ∧ zI Mc (143 + 2 + 2 + 5 * q) 6 = zof v) ∧ zI Mc (143 + 2 + 2 + 5 * q) 7 = 1 ∧ (zI Mc (143 + 2 + 2 + 5 * q + 1) 0 = 0 ∧ zI Mc (143 + 2 + 2 + 5 * q + 1) 1 = 0) ∧ (zI Mc (143 + 2 + 2 + 5 * q + 2) 0 = 0 ∧ zI Mc (143 + 2 + 2 + 5 * q + 2) 1 = 0) ∧ zI Mc (143 + 2 + 2 + 5 * q + 3) 0 = 0 ∧ zI Mc (143 + 2 + 2 + 5 * q + 4) 0 = 0
/-- how far both have read -/
def MS (Mc Mr : MZ) (c : Nat) (po : Nat) : Prop := (zI Mc 143 2 = po ∧ zI Mr 20 26 = po ∧ po ≤ 5) ∧ (zI Mc 143 3 = 0 ∧ zI Mc 143 4 = 0 ∧ zI Mc 143 5 = 0) ∧ (c = 0 → zI Mr 20 24 = 0 ∧ po = 0) ∧ (0 < c → zI Mc 143 0 = zI Mr 20 24 ∧ (2 ≤ zI Mr 20 24 ∧ zI Mr 20 24 ≤ 5) ∧ zI Mc 143 1 = zI Mr 20 25 ∧ (1 ≤ zI Mr 20 25 ∧ zI Mr 20 25 ≤ 4)) ∧ (∀ j, j < 20 → zI Mc 144 j = zI Mr 27 j ∧ 0 ≤ zI Mr 27 j ∧ zI Mr 27 j ≤ 9999999) ∧ (∀ q, q < po → PL Mc Mr (zI Mr 20 24) q) ∧ KON Mr
def ClOK (n : Nat) (B : Nat → Int) (c : Nat) (fl : Int) (Mc' Mr' : MZ) : Prop := (fl = 1 ∧ (∃ j, SR n B j Mc' Mr') ∧ (∃ po, MS Mc' Mr' c po)) ∨ (fl = 0 ∧ zI Mr' 20 10 = zI Mc' 2 1)
theorem PL.mv {Mc Mr Mc' Mr' : MZ} {th th' : Int} {q : Nat} (h : PL Mc Mr th q) (hq : q < 5) (et : th' = th) (hc : ∀ x, 143 + 2 + 2 + 5 * q ≤ x → x ≤ 143 + 2 + 2 + 5 * q + 4 → ∀ k, zI Mc' x k = zI Mc x k) (hr : ∀ j, j < 7 → zI Mr' 26 (7 * q + j) = zI Mr 26 (7 * q + j)) : PL Mc' Mr' th' q := by
  subst et
  have e0 : zI Mr' 26 (7 * q) = zI Mr 26 (7 * q) := hr 0 (by omega)
  unfold PL at *
  rw [e0, hr 1 (by omega), hr 2 (by omega), hr 3 (by omega), hr 4 (by omega), hr 5 (by omega), hr 6 (by omega), hc _ (by omega) (by omega) 5, hc _ (by omega) (by omega) 6, hc _ (by omega) (by omega) 7, hc (143 + 2 + 2 + 5 * q + 1) (by omega) (by omega) 0, hc (143 + 2 + 2 + 5 * q + 1) (by omega) (by omega) 1, hc (143 + 2 + 2 + 5 * q + 2) (by omega) (by omega) 0, hc (143 + 2 + 2 + 5 * q + 2) (by omega) (by omega) 1, hc (143 + 2 + 2 + 5 * q + 3) (by omega) (by omega) 0, hc (143 + 2 + 2 + 5 * q + 4) (by omega) (by omega) 0]
  refine ⟨fun j hj => ?_, h.2⟩
  rw [hc _ (by omega) (by omega) j, hr j (by omega)]
  exact h.1 j hj
theorem MS.rd {Mc Mr Mc' Mr' : MZ} {c po : Nat} (h : MS Mc Mr c po) (a : CF Mc Mc') (d : RF Mr Mr') : MS Mc' Mr' c po := by
  obtain ⟨⟨a1, a2, a3⟩, ⟨b1, b2, b3⟩, h0, h1, hp, hq, K⟩ := h
  have e24 := d.2.1 24 (by omega) (by omega) (by omega)
  have e25 := d.2.1 25 (by omega) (by omega) (by omega)
  have e26 := d.2.1 26 (by omega) (by omega) (by omega)
  have s := a.1 143 (by omega)
  have s27 := d.1 27 (by omega)
  have s144 := a.1 144 (by omega)
  have s26 := d.1 26 (by omega)
  refine ⟨⟨by rw [(s 2).1]; exact a1, by rw [e26]; exact a2, a3⟩, ⟨by rw [(s 3).1]; exact b1, by rw [(s 4).1]; exact b2, by rw [(s 5).1]; exact b3⟩, fun q => by rw [e24]; exact h0 q, fun q => by rw [(s 0).1, (s 1).1, e24, e25]; exact h1 q, fun j hj => by rw [(s144 j).1, (s27 j).1]; exact hp j hj, fun q hq' => (hq q hq').mv (by omega) e24 (fun x h1 h2 k => (a.1 x (by omega) k).1) (fun j _ => (s26 _).1), K.rf d⟩
theorem sim_sizes (b : BO n B) {i po : Nat} {Mc Mr : MZ} (h : SR n B i Mc Mr) (hm : MS Mc Mr 0 po) : ∃ (fl : Int) (Mc' Mr' : MZ), g_X3_readSizes Mc = some (fl, Mc') ∧ ((g_X12_reads 2 5 Mr).bind fun q21 => (if q21.1 = 0 then (some ((0 : Int), q21.2)) else (g_X12_readsMarket_34 (zI q21.2 20 11) q21.2))) = some (fl, Mr') ∧ CM Mc Mc' ∧ RM Mr Mr' ∧ ClOK n B 1 fl Mc' Mr' := by
  obtain ⟨fl, Mc1, Mr1, a1, a2, a3, a4, a5⟩ := sim_number b h 2 5
  unfold g_X3_readSizes g_X12_readsMarket_34
  rw [a1, a2]
  simp only [bindS]
  have hm1 := hm.rd a3 a4
  rcases a5 with ⟨rfl, ⟨j, hj⟩, ev, vl, vh⟩ | ⟨rfl, ef⟩
  · rw [if_neg (by omega), if_neg (by omega)]
    have cm1 : CM Mc1 (uI Mc1 143 0 (zI Mc1 2 2)) := CM_u (by omega)
    have hj1 : SR n B j (uI Mc1 143 0 (zI Mc1 2 2)) Mr1 := hj.cm cm1 RF.rfl.rm (by rw [zI_uI, if_neg (by omega)]) rfl
    obtain ⟨fl2, Mc2, Mr2, b1, b2, b3, b4, b5⟩ := sim_number b hj1 1 4
    rw [b1, b2]
    simp only [bindS]
    rcases b5 with ⟨rfl, ⟨j2, hj2⟩, ev2, vl2, vh2⟩ | ⟨rfl, ef2⟩
    · rw [if_neg (by omega), if_neg (by omega)]
      have e24 : zI (uI Mr2 20 24 (zI Mr1 20 11)) 20 11 = zI Mr2 20 11 := by rw [zI_uI, if_neg (by omega)]
      rw [e24]
      have cm2 : CM Mc2 (uI Mc2 143 1 (zI Mc2 2 2)) := CM_u (by omega)
      have rm2 : RM Mr2 (uI (uI Mr2 20 24 (zI Mr1 20 11)) 20 25 (zI Mr2 20 11)) := (RM_u20 (by omega)).trans (RM_u20 (by omega))
      refine ⟨1, _, _, rfl, rfl, ((a3.cm.trans cm1).trans b3.cm).trans cm2, (a4.rm.trans b4.rm).trans rm2, Or.inl ⟨rfl, ⟨j2, hj2.cm cm2 rm2 (by rw [zI_uI, if_neg (by omega)]) (by rw [zI_uI, if_neg (by omega), zI_uI, if_neg (by omega)])⟩, po, ?_⟩⟩
      obtain ⟨⟨x1, x2, x3⟩, ⟨y1, y2, y3⟩, h0, h1, hp, hq, K⟩ := hm1
      have hpo := (h0 rfl).2
      have s := b3.1 143 (by omega)
      have s144 := b3.1 144 (by omega)
      have s27 := b4.1 27 (by omega)
      have c143 : ∀ k, k ≠ 0 → k ≠ 1 → zI (uI Mc2 143 1 (zI Mc2 2 2)) 143 k = zI Mc1 143 k := fun k k0 k1 => by
        rw [zI_uI, if_neg (fun q => k1 q.2), (s k).1, zI_uI, if_neg (fun q => k0 q.2)]
      have f24 : zI (uI (uI Mr2 20 24 (zI Mr1 20 11)) 20 25 (zI Mr2 20 11)) 20 24 = zI Mc1 2 2 := by rw [zI_uI, if_neg (by omega), zI_at, ev]
      have f25 : zI (uI (uI Mr2 20 24 (zI Mr1 20 11)) 20 25 (zI Mr2 20 11)) 20 25 = zI Mc2 2 2 := by rw [zI_at, ev2]
      have f26 : zI (uI (uI Mr2 20 24 (zI Mr1 20 11)) 20 25 (zI Mr2 20 11)) 20 26 = zI Mr1 20 26 := by rw [zI_uI, if_neg (by omega), zI_uI, if_neg (by omega), b4.2.1 26 (by omega) (by omega) (by omega)]
      refine ⟨⟨by rw [c143 2 (by omega) (by omega)]; exact x1, by rw [f26]; exact x2, x3⟩, ⟨by rw [c143 3 (by omega) (by omega)]; exact y1, by rw [c143 4 (by omega) (by omega)]; exact y2, by rw [c143 5 (by omega) (by omega)]; exact y3⟩, fun q => absurd q (by omega), fun _ => ?_, fun j hj => ?_, fun q hq' => absurd hq' (by omega), (K.rf b4).rm rm2⟩
      · rw [f24, f25]
        refine ⟨?_, ⟨vl, vh⟩, zI_at _ _ _ _, ⟨vl2, vh2⟩⟩
        rw [zI_uI, if_neg (by omega), (s 0).1, zI_at]
      · have e1 : zI (uI Mc2 143 1 (zI Mc2 2 2)) 144 j = zI Mc1 144 j := by
          rw [zI_uI, if_neg (by omega), (s144 j).1, zI_uI, if_neg (by omega)]
        have e2 : zI (uI (uI Mr2 20 24 (zI Mr1 20 11)) 20 25 (zI Mr2 20 11)) 27 j = zI Mr1 27 j := by
          rw [zI_uI, if_neg (by omega), zI_uI, if_neg (by omega), (s27 j).1]
        rw [e1, e2]
        exact hp j hj
    · rw [if_pos rfl, if_pos rfl]
      exact ⟨0, _, _, rfl, rfl, (a3.cm.trans cm1).trans b3.cm, a4.rm.trans b4.rm, Or.inr ⟨rfl, ef2⟩⟩
  · rw [if_pos rfl, if_pos rfl]
    exact ⟨0, _, _, rfl, rfl, a3.cm, a4.rm, Or.inr ⟨rfl, ef⟩⟩
theorem pt_20 {p t : Nat} (hp : p < 4) (ht : t < 5) : 0 ≤ ((5 * p + t : Nat) : Int) ∧ ((5 * p + t : Nat) : Int) < ((20 : Nat) : Int) := by omega
theorem sim_purse (b : BO n B) {i po c : Nat} (hc : 0 < c) {Mc Mr : MZ} (h : SR n B i Mc Mr) (hm : MS Mc Mr c po) : ∃ (fl : Int) (Mc' Mr' : MZ), g_X3_readPurse Mc = some (fl, Mc') ∧ ((g_X12_reads 0 (w32 ((zI Mr 20 25) - 1)) Mr).bind fun q12 => (if q12.1 = 0 then (some ((0 : Int), q12.2)) else (g_X12_readsPurse_25 (zI q12.2 20 11) q12.2))) = some (fl, Mr') ∧ CM Mc Mc' ∧ RM Mr Mr' ∧ ClOK n B (c + 1) fl Mc' Mr' := by
  have z0 := hm.2.2.2.1 hc
  have ew1 : w32 (zI Mr 20 25 - 1) = zI Mr 20 25 - 1 := w32_id (by omega) (by omega)
  have ew2 : w32 (zI Mr 20 24 - 1) = zI Mr 20 24 - 1 := w32_id (by omega) (by omega)
  obtain ⟨fl, Mc1, Mr1, a1, a2, a3, a4, a5⟩ := sim_number b h 0 (zI Mr 20 25 - 1)
  unfold g_X3_readPurse g_X3_readPurse_30 g_X3_readPurse_60 g_X12_readsPurse_25 g_X12_readsPurse_46
  rw [z0.2.2.1, ew1, a1, a2]
  simp only [bindS]
  have hm1 := hm.rd a3 a4
  rcases a5 with ⟨rfl, ⟨j, hj⟩, ev, vl, vh⟩ | ⟨rfl, ef⟩
  · rw [if_neg (by omega), if_neg (by omega)]
    have z1 := hm1.2.2.2.1 hc
    have e24 := a4.2.1 24 (by omega) (by omega) (by omega)
    have e25 := a4.2.1 25 (by omega) (by omega) (by omega)
    obtain ⟨fl2, Mc2, Mr2, b1, b2, b3, b4, b5⟩ := sim_number b hj 0 (zI Mr 20 24 - 1)
    rw [z1.1, e24, ew2, b1, b2]
    simp only [bindS]
    have hm2 := hm1.rd b3 b4
    rcases b5 with ⟨rfl, ⟨j2, hj2⟩, ev2, vl2, vh2⟩ | ⟨rfl, ef2⟩
    · rw [if_neg (by omega), if_neg (by omega)]
      obtain ⟨fl3, Mc3, Mr3, c1, c2, c3, c4, c5⟩ := sim_number b hj2 0 9999999
      rw [c1, c2]
      simp only [bindS]
      have hm3 := hm2.rd c3 c4
      rcases c5 with ⟨rfl, ⟨j3, hj3⟩, ev3, vl3, vh3⟩ | ⟨rfl, ef3⟩
      · rw [if_neg (by omega), if_neg (by omega), ev, ev2]
        obtain ⟨p, ep⟩ := zR_nat vl
        obtain ⟨t, et⟩ := zR_nat vl2
        have hp4 : p < 4 := by omega
        have ht5 : t < 5 := by omega
        rw [ep, et, K_purseOf b143 hp4 ht5]
        simp only [bindS]
        rw [K_putIntoPurse b143 hp4 ht5]
        simp only [bindS]
        obtain ⟨x, y, h0, h1, hp, hq, K⟩ := hm3
        have hpj := hp (5 * p + t) (by omega)
        have hpj1 : zI Mc3 (143 + 1) (5 * p + t) = zI Mr3 27 (5 * p + t) := hpj.1
        have ewv : w32 (zI Mc3 (143 + 1) (5 * p + t) + w32 (zI Mc3 2 2 - zI Mc3 (143 + 1) (5 * p + t))) = zI Mc3 2 2 := by
          rw [hpj1, w32_id (x := zI Mc3 2 2 - zI Mr3 27 (5 * p + t)) (by omega) (by omega), w32_id (by omega) (by omega)]
          omega
        have ei : w32 (w32 (5 * (p : Int)) + t) = ((5 * p + t : Nat) : Int) := by
          rw [w32_id (x := 5 * (p : Int)) (by omega) (by omega), w32_id (by omega) (by omega)]
          omega
        rw [ewv, ei, if_pos (pt_20 hp4 ht5), Int.toNat_natCast, ev3]
        have cm3 : CM Mc3 (uI Mc3 (143 + 1) (5 * p + t) (zI Mc3 2 2)) := CM_u (by omega)
        have rm3 : RM Mr3 (uI Mr3 27 (5 * p + t) (zI Mc3 2 2)) := RM_u (by omega)
        refine ⟨1, _, _, rfl, rfl, ((a3.trans b3).trans c3).cm.trans cm3, ((a4.trans b4).trans c4).rm.trans rm3, Or.inl ⟨rfl, ⟨j3, hj3.cm cm3 rm3 (by rw [zI_uI, if_neg (by omega)]) (by rw [zI_uI, if_neg (by omega)])⟩, po, ?_⟩⟩
        have g143 : ∀ k, zI (uI Mc3 (143 + 1) (5 * p + t) (zI Mc3 2 2)) 143 k = zI Mc3 143 k := fun k => by rw [zI_uI, if_neg (by omega)]
        have g20 : ∀ k, zI (uI Mr3 27 (5 * p + t) (zI Mc3 2 2)) 20 k = zI Mr3 20 k := fun k => by rw [zI_uI, if_neg (by omega)]
        refine ⟨by rw [g143, g20]; exact x, by rw [g143, g143, g143]; exact y, fun q => absurd q (by omega), fun _ => by rw [g143, g143, g20, g20]; exact h1 hc, fun j hj => ?_, fun q hq' => (hq q hq').mv (by have := x.2.2; omega) (g20 24) (fun z h1 h2 k => by rw [zI_uI, if_neg (by omega)]) (fun j _ => by rw [zI_uI, if_neg (by omega)]), K.rm rm3⟩
        by_cases cj : j = 5 * p + t
        · subst cj
          have e1 : zI (uI Mc3 (143 + 1) (5 * p + t) (zI Mc3 2 2)) 144 (5 * p + t) = zI Mc3 2 2 := zI_at _ _ _ _
          rw [e1, zI_at]
          exact ⟨rfl, vl3, vh3⟩
        · rw [zI_uI, if_neg (fun q => cj q.2), zI_uI, if_neg (fun q => cj q.2)]
          exact hp j hj
      · rw [if_pos rfl, if_pos rfl]
        exact ⟨0, _, _, rfl, rfl, ((a3.trans b3).trans c3).cm, ((a4.trans b4).trans c4).rm, Or.inr ⟨rfl, ef3⟩⟩
    · rw [if_pos rfl, if_pos rfl]
      exact ⟨0, _, _, rfl, rfl, (a3.trans b3).cm, (a4.trans b4).rm, Or.inr ⟨rfl, ef2⟩⟩
  · rw [if_pos rfl, if_pos rfl]
    exact ⟨0, _, _, rfl, rfl, a3.cm, a4.rm, Or.inr ⟨rfl, ef⟩⟩
end MR
