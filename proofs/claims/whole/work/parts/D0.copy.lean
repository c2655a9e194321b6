/-! a market is copied -/
theorem sameH_zcp {M : MZ} {h0 sp h1 dp n x : Nat} (hx : x ≠ h1) : sameH M (zcp M h0 sp h1 dp n) x := fun k => ⟨by rw [zI_zcp, if_neg hx], Eq.refl _, Eq.refl _⟩
def CPf (M M' : MZ) (hd hb n : Nat) : Prop := (∀ k, k < n → zI M' hd k = zI M hb k) ∧ (∀ x, x ≠ hd → sameH M M' x) ∧ (∀ k, zR M' hd k = zR M hd k)
theorem CPf.step {M M' : MZ} {hd hb n : Nat} (h : CPf M M' hd hb n) (hne : hb ≠ hd) : CPf M (uI M' hd n (zI M' hb n)) hd hb (n + 1) :=
  ⟨fun k hk => by
    rw [zI_uI]
    by_cases c : k = n
    · subst c
      rw [if_pos ⟨rfl, rfl⟩]
      exact (h.2.1 hb hne _).1
    · rw [if_neg (fun q => c q.2)]
      exact h.1 k (by omega), fun x hx => (h.2.1 x hx).trans (sameH_uI hx), h.2.2⟩
theorem CPf.rfl {M : MZ} {hd hb : Nat} : CPf M M hd hb 0 := ⟨fun k hk => absurd hk (by omega), fun _ _ => sameH.rfl, fun _ => Eq.refl _⟩
theorem zI_row {M : MZ} {h0 h1 n k : Nat} (hk : k < n) : zI (zcp M h0 0 h1 0 n) h1 k = zI M h0 k := by
  rw [zI_zcp, if_pos rfl, if_pos (by omega)]
  exact congrArg _ (by omega)
theorem K_cpPool {hd hb : Nat} (k1 : kd hd = (3, 12)) (k2 : kd hb = (3, 12)) (hne : hb + 4 < hd ∨ hd + 4 < hb) (M : MZ) : ∃ M', g_X4_copyFrom hd hb M = some ((), M') ∧ (∀ x, ¬ (hd ≤ x ∧ x ≤ hd + 4) → sameH M M' x) ∧ (∀ k, k < 8 → zI M' hd k = zI M hb k) ∧ (∀ k, k < 2 → zI M' (hd + 1) k = zI M (hb + 1) k) ∧ (∀ k, k < 2 → zI M' (hd + 2) k = zI M (hb + 2) k) ∧ (∀ k, k < 8 → zI M' (hd + 3) k = zI M (hb + 3) k) ∧ (∀ k, k < 8 → zI M' (hd + 4) k = zI M (hb + 4) k) := by
  have hn : hb ≠ hd := by omega
  have c7 := ((((((CPf.rfl (M := M) (hd := hd) (hb := hb)).step hn).step hn).step hn).step hn).step hn).step hn |>.step hn
  obtain ⟨S8, e8, c8⟩ : ∃ S8, S8 = _ ∧ CPf M S8 hd hb 8 := ⟨_, rfl, c7.step hn⟩
  refine ⟨zcp (zcp (zcp (zcp S8 (hb + 1) 0 (hd + 1) 0 2) (hb + 2) 0 (hd + 2) 0 2) (hb + 3) 0 (hd + 3) 0 8) (hb + 4) 0 (hd + 4) 0 8, ?_, ?_, ?_, ?_, ?_, ?_, ?_⟩
  · unfold g_X4_copyFrom g_X4_copyFrom_24 g_X4_copyFrom_48 g_X4_copyFrom_78
    rw [if_pos k2, if_pos k1, if_pos k2, if_pos k1, if_pos k2, if_pos k1, if_pos k2, if_pos k1, e8]
  · intro x hx
    exact ((((c8.2.1 x (by omega)).trans (sameH_zcp (by omega))).trans (sameH_zcp (by omega))).trans (sameH_zcp (by omega))).trans (sameH_zcp (by omega))
  · intro k hk
    rw [(sameH_zcp (by omega) k).1, (sameH_zcp (by omega) k).1, (sameH_zcp (by omega) k).1, (sameH_zcp (by omega) k).1]
    exact c8.1 k hk
  · intro k hk
    rw [(sameH_zcp (by omega) k).1, (sameH_zcp (by omega) k).1, (sameH_zcp (by omega) k).1, zI_row hk]
    exact (c8.2.1 _ (by omega) k).1
  · intro k hk
    rw [(sameH_zcp (by omega) k).1, (sameH_zcp (by omega) k).1, zI_row hk, (sameH_zcp (by omega) k).1]
    exact (c8.2.1 _ (by omega) k).1
  · intro k hk
    rw [(sameH_zcp (by omega) k).1, zI_row hk, (sameH_zcp (by omega) k).1, (sameH_zcp (by omega) k).1]
    exact (c8.2.1 _ (by omega) k).1
  · intro k hk
    rw [zI_row hk, (sameH_zcp (by omega) k).1, (sameH_zcp (by omega) k).1, (sameH_zcp (by omega) k).1]
    exact (c8.2.1 _ (by omega) k).1
theorem K_cpStake {hd hs : Nat} (k1 : kd hd = (6, 8)) (k2 : kd hs = (6, 8)) (hne : hs + 2 < hd ∨ hd + 2 < hs) (M : MZ) : ∃ M', g_X7_copyFrom hd hs M = some ((), M') ∧ (∀ x, (x < hd ∨ hd + 2 < x) → sameH M M' x) ∧ (∀ a k, zR M' a k = zR M a k) ∧ (∀ w, w < 10 → zS M' hd w = zS M hs w) := by
  obtain ⟨M1, o1, o2, o3, o4⟩ := K_open_raw k1 (zI M hs 0) (zI M hs 1) (zI M hs 2) (zI M hs 3) (zI M hs 4) M
  have e : ∀ (f : Nat) (k : Int) (M : MZ), g_X7_copyFrom_34 (f + 1) hd hs k M = g_X7_copyFrom_34B (g_X7_copyFrom_34 f) hd hs k M := fun _ _ _ => rfl
  have s0 : ∀ (f : Nat) (M : MZ), g_X7_copyFrom_34 (f + 1) hd hs 0 M = g_X7_copyFrom_34 f hd hs 1 (uS (uS M hd 6 (zL M (hs + 1) 0)) hd 8 (zL M (hs + 2) 0)) := by
    intro f M
    rw [e]
    unfold g_X7_copyFrom_34B
    have q : zL (uL M (hd + 1) (0 : Int).toNat (zL M (hs + 1) (0 : Int).toNat)) (hs + 2) (0 : Int).toNat = zL M (hs + 2) (0 : Int).toNat := (sameH_uL (by omega) _).2.1
    rw [if_neg (by omega), if_pos k1, if_pos k2, if_pos (by omega), if_pos (by omega), if_pos (by omega), if_pos (by omega), w32_id (by omega) (by omega), q]
    rfl
  have s1 : ∀ (f : Nat) (M : MZ), g_X7_copyFrom_34 (f + 1) hd hs 1 M = g_X7_copyFrom_34 f hd hs 2 (uS (uS M hd 7 (zL M (hs + 1) 1)) hd 9 (zL M (hs + 2) 1)) := by
    intro f M
    rw [e]
    unfold g_X7_copyFrom_34B
    have q : zL (uL M (hd + 1) (1 : Int).toNat (zL M (hs + 1) (1 : Int).toNat)) (hs + 2) (1 : Int).toNat = zL M (hs + 2) (1 : Int).toNat := (sameH_uL (by omega) _).2.1
    rw [if_neg (by omega), if_pos k1, if_pos k2, if_pos (by omega), if_pos (by omega), if_pos (by omega), if_pos (by omega), w32_id (by omega) (by omega), q]
    rfl
  have s2 : ∀ (f : Nat) (M : MZ), g_X7_copyFrom_34 (f + 1) hd hs 2 M = some ((), M) := by
    intro f M
    rw [e]
    unfold g_X7_copyFrom_34B
    rw [if_pos (by omega)]
  have f0 := o2 hs (by omega)
  have f1 := o2 (hs + 1) (by omega)
  have f2 := o2 (hs + 2) (by omega)
  have g1 : ∀ (w k : Nat) (v : Int) (Z : MZ), zL (uS Z hd w v) (hs + 1) k = zL Z (hs + 1) k := fun w k v Z => (sameH_uS (by omega) k).2.1
  have g2 : ∀ (w k : Nat) (v : Int) (Z : MZ), zL (uS Z hd w v) (hs + 2) k = zL Z (hs + 2) k := fun w k v Z => (sameH_uS (by omega) k).2.1
  refine ⟨uS (uS (uS (uS (uS M1 hd 5 (zI M hs 5)) hd 6 (zL M (hs + 1) 0)) hd 8 (zL M (hs + 2) 0)) hd 7 (zL M (hs + 1) 1)) hd 9 (zL M (hs + 2) 1), ?_, ?_, ?_, ?_⟩
  · unfold g_X7_copyFrom
    rw [if_pos k2, if_pos k1, o1]
    simp only [bindS]
    have e5 : uI M1 hd 5 (zI M1 hs 5) = uS M1 hd 5 (zI M hs 5) := by rw [(f0 5).1]; rfl
    rw [e5]
    refine (s0 99999 _).trans ((s1 99998 _).trans ?_)
    rw [s2 99997]
    simp only [g1, g2]
    rw [(f1 0).2.1, (f2 0).2.1, (f1 1).2.1, (f2 1).2.1]
  · intro x hx
    exact (((((o2 x hx).trans (sameH_uS hx)).trans (sameH_uS hx)).trans (sameH_uS hx)).trans (sameH_uS hx)).trans (sameH_uS hx)
  · intro a k
    rw [zR_uS, zR_uS, zR_uS, zR_uS, zR_uS]
    exact o3 a k
  · intro w hw
    rw [zS_uS (by omega) hw, zS_uS (by omega) hw, zS_uS (by omega) hw, zS_uS (by omega) hw, zS_uS (by omega) hw, o4 w hw]
    have : w = 0 ∨ w = 1 ∨ w = 2 ∨ w = 3 ∨ w = 4 ∨ w = 5 ∨ w = 6 ∨ w = 7 ∨ w = 8 ∨ w = 9 := by omega
    rcases this with rfl | rfl | rfl | rfl | rfl | rfl | rfl | rfl | rfl | rfl <;> rfl
/-- how far a market is copied -/
def CPm (M M' : MZ) (d b np ns : Nat) : Prop := FrB d M M' ∧ (∀ k, k < 6 → zI M' d k = zI M b k) ∧ (∀ k, k < 20 → zI M' (d + 1) k = zI M (b + 1) k) ∧ (∀ p, p < np → (∀ k, k < 8 → zI M' (d + 2 + 2 + 5 * p) k = zI M (b + 2 + 2 + 5 * p) k) ∧ (∀ k, k < 2 → zI M' (d + 2 + 2 + 5 * p + 1) k = zI M (b + 2 + 2 + 5 * p + 1) k) ∧ (∀ k, k < 2 → zI M' (d + 2 + 2 + 5 * p + 2) k = zI M (b + 2 + 2 + 5 * p + 2) k) ∧ (∀ k, k < 8 → zI M' (d + 2 + 2 + 5 * p + 3) k = zI M (b + 2 + 2 + 5 * p + 3) k) ∧ (∀ k, k < 8 → zI M' (d + 2 + 2 + 5 * p + 4) k = zI M (b + 2 + 2 + 5 * p + 4) k)) ∧ (∀ i, zR M' (d + 3) i = zR M (d + 3) i) ∧ (∀ i, i < ns → ∀ w, w < 10 → zS M' (zR M (d + 3) i) w = zS M (zR M (b + 3) i) w)
section CM
variable {M : MZ} {d b : Nat}
theorem far {d b : Nat} (hd : bOK d) (hb : bOK b) (hne : d ≠ b) : d + 65 ≤ b ∨ b + 65 ≤ d := by
  rcases hd with rfl | rfl <;> rcases hb with rfl | rfl <;> omega
theorem CPm_stakes (hd : bOK d) (hb : bOK b) (hne : d ≠ b) (hH : HP M d) (hB : HP M b) {n np : Nat} (hn : zI M b 3 = n) (n12 : n ≤ 12) (hnp : np ≤ 5) : ∀ (r i f : Nat) (M' : MZ), i + r = n → r < f → CPm M M' d b np i → ∃ M'', g_X2_copyFrom_108 f d b i M' = some ((), M'') ∧ CPm M M'' d b np n := by
  have hfar := far hd hb hne
  intro r
  induction r with
  | zero =>
    intro i f M' hi hf C
    obtain ⟨f, rfl⟩ : ∃ g, f = g + 1 := ⟨f - 1, by omega⟩
    have e : g_X2_copyFrom_108 (f + 1) d b i M' = g_X2_copyFrom_108B (g_X2_copyFrom_108 f) d b i M' := rfl
    have : i = n := by omega
    subst this
    refine ⟨M', ?_, C⟩
    rw [e]
    unfold g_X2_copyFrom_108B g_X2_copyFrom_146
    rw [if_pos (kdb hd), C.2.1 3 (by omega), hn, if_pos (Int.le_refl _)]
  | succ r ih =>
    intro i f M' hi hf C
    obtain ⟨f, rfl⟩ : ∃ g, f = g + 1 := ⟨f - 1, by omega⟩
    have e : g_X2_copyFrom_108 (f + 1) d b i M' = g_X2_copyFrom_108B (g_X2_copyFrom_108 f) d b i M' := rfl
    obtain ⟨c1, c2, c3, c4, c5, c6⟩ := C
    have r1 := hH.rng (show i < 12 by omega)
    have r2 := hB.rng (show i < 12 by omega)
    have sb : zR M' (b + 3) i = zR M (b + 3) i := (c1 (b + 3) (by omega) i).2.2
    obtain ⟨M1, a1, a2, a3, a4⟩ := K_cpStake (hH.kd hd (show i < 12 by omega)) (hB.kd hb (show i < 12 by omega)) (by omega) M'
    have hstep : g_X2_copyFrom_108B (g_X2_copyFrom_108 f) d b i M' = g_X2_copyFrom_108 f d b ((i + 1 : Nat) : Int) M1 := by
      unfold g_X2_copyFrom_108B
      rw [if_pos (kdb hd), c2 3 (by omega), hn, if_neg (by omega), if_neg (by omega), if_pos (by omega), if_pos (kdb hb), if_pos (by omega), Int.toNat_natCast, c5 i, sb, if_pos (hH.kd hd (by omega)), a1]
      simp only [bindS]
      rw [w32_id (by omega) (by omega)]
      rfl
    rw [e, hstep]
    refine ih (i + 1) f M1 (by omega) (by omega) ⟨c1.trans (fun x hx => a2 x (by omega)), fun k hk => ?_, fun k hk => ?_, fun p hp => ?_, fun j => ?_, fun j hj w hw => ?_⟩
    · rw [(a2 d (by omega) k).1]; exact c2 k hk
    · rw [(a2 (d + 1) (by omega) k).1]; exact c3 k hk
    · obtain ⟨q0, q1, q2, q3, q4⟩ := c4 p hp
      refine ⟨fun k hk => ?_, fun k hk => ?_, fun k hk => ?_, fun k hk => ?_, fun k hk => ?_⟩
      · rw [(a2 _ (by omega) k).1]; exact q0 k hk
      · rw [(a2 _ (by omega) k).1]; exact q1 k hk
      · rw [(a2 _ (by omega) k).1]; exact q2 k hk
      · rw [(a2 _ (by omega) k).1]; exact q3 k hk
      · rw [(a2 _ (by omega) k).1]; exact q4 k hk
    · rw [a3]; exact c5 j
    · by_cases ej : j = i
      · subst ej
        rw [a4 w hw]
        exact zS_same (c1 _ (by omega)) (c1 _ (by omega)) (c1 _ (by omega)) w
      · have ra := hH.apart (show j < 12 by omega) (show i < 12 by omega) ej
        rw [zS_same (a2 _ (by omega)) (a2 _ (by omega)) (a2 _ (by omega)) w]
        exact c6 j (by omega) w hw
theorem CPm_pools (hd : bOK d) (hb : bOK b) (hne : d ≠ b) (hH : HP M d) (hB : HP M b) {n m : Nat} (hn : zI M b 3 = n) (n12 : n ≤ 12) (hm : zI M b 2 = m) (m5 : m ≤ 5) : ∀ (r i f : Nat) (M' : MZ), i + r = m → r < f → CPm M M' d b i 0 → ∃ M'', g_X2_copyFrom_68 f d b i M' = some ((), M'') ∧ CPm M M'' d b m n := by
  have hfar := far hd hb hne
  intro r
  induction r with
  | zero =>
    intro i f M' hi hf C
    obtain ⟨f, rfl⟩ : ∃ g, f = g + 1 := ⟨f - 1, by omega⟩
    have e : g_X2_copyFrom_68 (f + 1) d b i M' = g_X2_copyFrom_68B (g_X2_copyFrom_68 f) d b i M' := rfl
    have : i = m := by omega
    subst this
    obtain ⟨M2, a1, a2⟩ := CPm_stakes hd hb hne hH hB hn n12 m5 n 0 100000 M' (by omega) (by omega) C
    refine ⟨M2, ?_, a2⟩
    rw [e]
    unfold g_X2_copyFrom_68B g_X2_copyFrom_106
    rw [if_pos (kdb hd), C.2.1 2 (by omega), hm, if_pos (Int.le_refl _)]
    exact a1
  | succ r ih =>
    intro i f M' hi hf C
    obtain ⟨f, rfl⟩ : ∃ g, f = g + 1 := ⟨f - 1, by omega⟩
    have e : g_X2_copyFrom_68 (f + 1) d b i M' = g_X2_copyFrom_68B (g_X2_copyFrom_68 f) d b i M' := rfl
    obtain ⟨c1, c2, c3, c4, c5, c6⟩ := C
    obtain ⟨M1, a1, a2, b0, b1, b2, b3, b4⟩ := K_cpPool (kdp hd (show i < 5 by omega)) (kdp hb (show i < 5 by omega)) (by omega) M'
    have hstep : g_X2_copyFrom_68B (g_X2_copyFrom_68 f) d b i M' = g_X2_copyFrom_68 f d b ((i + 1 : Nat) : Int) M1 := by
      unfold g_X2_copyFrom_68B
      rw [if_pos (kdb hd), c2 2 (by omega), hm, if_neg (by omega), if_neg (by omega), if_pos (by omega), if_pos (kdb hb), if_pos (by omega), Int.toNat_natCast, a1]
      simp only [bindS]
      rw [w32_id (by omega) (by omega)]
      rfl
    rw [e, hstep]
    refine ih (i + 1) f M1 (by omega) (by omega) ⟨c1.trans (fun x hx => a2 x (by omega)), fun k hk => ?_, fun k hk => ?_, fun p hp => ?_, fun j => ?_, fun j hj w hw => absurd hj (by omega)⟩
    · rw [(a2 d (by omega) k).1]; exact c2 k hk
    · rw [(a2 (d + 1) (by omega) k).1]; exact c3 k hk
    · by_cases ep : p = i
      · subst ep
        refine ⟨fun k hk => ?_, fun k hk => ?_, fun k hk => ?_, fun k hk => ?_, fun k hk => ?_⟩
        · rw [b0 k hk]; exact (c1 _ (by omega) k).1
        · rw [b1 k hk]; exact (c1 _ (by omega) k).1
        · rw [b2 k hk]; exact (c1 _ (by omega) k).1
        · rw [b3 k hk]; exact (c1 _ (by omega) k).1
        · rw [b4 k hk]; exact (c1 _ (by omega) k).1
      · obtain ⟨q0, q1, q2, q3, q4⟩ := c4 p (by omega)
        refine ⟨fun k hk => ?_, fun k hk => ?_, fun k hk => ?_, fun k hk => ?_, fun k hk => ?_⟩
        · rw [(a2 _ (by omega) k).1]; exact q0 k hk
        · rw [(a2 _ (by omega) k).1]; exact q1 k hk
        · rw [(a2 _ (by omega) k).1]; exact q2 k hk
        · rw [(a2 _ (by omega) k).1]; exact q3 k hk
        · rw [(a2 _ (by omega) k).1]; exact q4 k hk
    · rw [(a2 _ (by omega) j).2.2]; exact c5 j
theorem K_copyFrom (hd : bOK d) (hb : bOK b) (hne : d ≠ b) {kk : Bool} {N T : Nat → Int} {L : List (Nat → Int)} {th pe po : Int} (R : Rep kk M b N T L th pe po) (hpo : 0 ≤ po ∧ po ≤ 5) (hH : HP M d) : ∃ M', g_X2_copyFrom d b M = some ((), M') ∧ Rep kk M' d N T L th pe po ∧ FrB d M M' := by
  have hfar := far hd hb hne
  have hbd : b ≠ d := fun q => hne q.symm
  obtain ⟨⟨a0, a1, a2, a3, a4, a5⟩, hp, ht, hc, hL, hB, h12⟩ := R
  obtain ⟨m, em⟩ := zR_nat hpo.1
  have c5 := (((((CPf.rfl (M := M) (hd := d) (hb := b)).step hbd).step hbd).step hbd).step hbd).step hbd
  obtain ⟨S6, e6, c6⟩ : ∃ S6, S6 = _ ∧ CPf M S6 d b 6 := ⟨_, rfl, c5.step hbd⟩
  have C0 : CPm M (zcp S6 (b + 1) 0 (d + 1) 0 20) d b 0 0 := by
    refine ⟨fun x hx => (c6.2.1 x (by omega)).trans (sameH_zcp (by omega)), fun k hk => ?_, fun k hk => ?_, fun p hp => absurd hp (by omega), fun i => ?_, fun i hi => absurd hi (by omega)⟩
    · rw [(sameH_zcp (by omega) k).1]; exact c6.1 k hk
    · rw [zI_row hk]; exact (c6.2.1 _ (by omega) k).1
    · rw [(sameH_zcp (by omega) i).2.2]; exact (c6.2.1 _ (by omega) i).2.2
  obtain ⟨M2, x1, x2⟩ := CPm_pools hd hb hne hH hB (n := L.length) (m := m) a3 h12 (by rw [a2, em]) (by omega) m 0 100000 _ (by omega) (by omega) C0
  obtain ⟨y1, y2, y3, y4, y5, y6⟩ := x2
  refine ⟨M2, ?_, ?_, y1⟩
  · unfold g_X2_copyFrom g_X2_copyFrom_24 g_X2_copyFrom_48
    rw [if_pos (kdb hb), if_pos (kdb hd), if_pos (kdb hb), if_pos (kdb hd), if_pos (kdb hb), if_pos (kdb hd), ← e6]
    exact x1
  · refine ⟨⟨by rw [y2 0 (by omega)]; exact a0, by rw [y2 1 (by omega)]; exact a1, by rw [y2 2 (by omega)]; exact a2, by rw [y2 3 (by omega)]; exact a3, by rw [y2 4 (by omega)]; exact a4, by rw [y2 5 (by omega)]; exact a5⟩, fun j hj => by rw [y3 j hj]; exact hp j hj, fun p p5 pq j hj => ?_, fun p p5 pq w hw hk => ?_, fun i hi w hw => ?_, HP.same (fun i _ => y5 i) hH, h12⟩
    · rw [(y4 p (by omega)).1 j (by omega)]; exact ht p p5 pq j hj
    · rw [← hc p p5 pq w hw hk]
      obtain ⟨q0, q1, q2, q3, q4⟩ := y4 p (by omega)
      unfold pad ppl
      by_cases w2 : w < 2
      · simp only [if_pos w2, Nat.add_zero]
        exact q0 _ (by omega)
      · by_cases w4 : w < 4
        · simp only [if_neg w2, if_pos w4]
          exact q1 _ (by omega)
        · by_cases w6 : w < 6
          · simp only [if_neg w2, if_neg w4, if_pos w6]
            exact q2 _ (by omega)
          · by_cases w7 : w = 6
            · simp only [if_neg w2, if_neg w4, if_neg w6, if_pos w7, Nat.add_zero]
              exact q0 _ (by omega)
            · simp only [if_neg w2, if_neg w4, if_neg w6, if_neg w7]
              rcases (show (w - 7) % 2 = 0 ∨ (w - 7) % 2 = 1 by omega) with e | e
              · rw [e]
                exact q3 _ (by omega)
              · rw [e]
                exact q4 _ (by omega)
    · rw [y5, y6 i hi w hw]
      exact hL i hi w hw
theorem Rep.weak {kk : Bool} {N T : Nat → Int} {L : List (Nat → Int)} {th pe po : Int} (R : Rep kk M b N T L th pe po) : Rep false M b N T L th pe po := by
  obtain ⟨a, hp, ht, hc, hL, hB, h12⟩ := R
  refine ⟨a, hp, ht, fun p p5 pq w hw hk => hc p p5 pq w hw (Or.inl ?_), hL, hB, h12⟩
  rcases hk with q | q
  · exact q
  · exact absurd q.1 (by decide)
end CM
