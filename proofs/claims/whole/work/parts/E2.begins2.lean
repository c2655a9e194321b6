/-! the reference begins a market -/
def BG (Mr M' : MZ) (i : Nat) : Prop := (∀ p, p < i → ∃ v, SQ (10000000000 * zI Mr 26 (7 * p + 5) / zI Mr 26 (7 * p + 6)) v ∧ zL M' 23 (22 + 23 * p) = v ∧ zL M' 23 (22 + 23 * p + 1) = zof v ∧ zL M' 23 (22 + 23 * p + 6) = 1 ∧ (∀ w, w < 23 → w ≠ 0 → w ≠ 1 → w ≠ 6 → zL M' 23 (22 + 23 * p + w) = 0)) ∧ (∀ p, i ≤ p → p < 5 → ∀ w, w < 23 → zL M' 23 (22 + 23 * p + w) = 0) ∧ (∀ j, j < 20 → zL M' 23 (2 + j) = zI Mr 27 j) ∧ (zL M' 23 0 = 0 ∧ zL M' 23 1 = 0 ∧ zL M' 23 137 = 0) ∧ (∀ p, p < i → ∀ k, k < 5 → zI M' 22 (5 * p + k) = zI Mr 26 (7 * p + k))
theorem R_bpools {Mr : MZ} {po : Nat} (hpo : po ≤ 5) (hr : ∀ q, q < po → (1 ≤ zI Mr 26 (7 * q + 5) ∧ zI Mr 26 (7 * q + 5) ≤ 9999) ∧ (1 ≤ zI Mr 26 (7 * q + 6) ∧ zI Mr 26 (7 * q + 6) ≤ 9999)) : ∀ (d i f : Nat) (Mx : MZ), i + d = po → d < f → KON Mx → zI Mx 20 3 = po → (∀ k, zI Mx 26 k = zI Mr 26 k) → BG Mr Mx i → ∃ M', g_X12_begins_77 f i Mx = some ((), M') ∧ (∀ x, x ≠ 22 → x ≠ 23 → sameH Mx M' x) ∧ BG Mr M' po := by
  intro d
  induction d with
  | zero =>
    intro i f Mx hi hf K h3 h26 hB
    obtain ⟨f, rfl⟩ : ∃ g, f = g + 1 := ⟨f - 1, by omega⟩
    have e : g_X12_begins_77 (f + 1) i Mx = g_X12_begins_77B (g_X12_begins_77 f) i Mx := rfl
    have : i = po := by omega
    subst this
    refine ⟨Mx, ?_, fun _ _ _ => sameH.rfl, hB⟩
    rw [e]
    unfold g_X12_begins_77B
    rw [h3, if_pos (Int.le_refl _)]
  | succ d ih =>
    intro i f Mx hi hf K h3 h26 hB
    obtain ⟨f, rfl⟩ : ∃ g, f = g + 1 := ⟨f - 1, by omega⟩
    have e : g_X12_begins_77 (f + 1) i Mx = g_X12_begins_77B (g_X12_begins_77 f) i Mx := rfl
    obtain ⟨ra, rb⟩ := hr i (by omega)
    obtain ⟨M1, v, a1, a2, a3, a4, a5⟩ := R_pool1 (M := Mx) K (p := i) (by omega) (h26 _) (h26 _) ra rb (g_X12_begins_77 f)
    rw [e]
    unfold g_X12_begins_77B
    rw [h3, if_neg (by omega), a1]
    obtain ⟨b1, b2, b3, b4, b5⟩ := hB
    have z : ∀ j, j ≠ 22 + 23 * i → j ≠ 22 + 23 * i + 1 → j ≠ 22 + 23 * i + 6 → zL M1 23 j = zL Mx 23 j := fun j h1 h2 h3 => by rw [a5, if_neg h3, if_neg h2, if_neg h1]
    have z0 : zL M1 23 (22 + 23 * i) = v := by rw [a5, if_neg (by omega), if_neg (by omega), if_pos rfl]
    have z1 : zL M1 23 (22 + 23 * i + 1) = zof v := by rw [a5, if_neg (by omega), if_pos rfl]
    have z6 : zL M1 23 (22 + 23 * i + 6) = 1 := by rw [a5, if_pos rfl]
    have hB1 : BG Mr M1 (i + 1) := by
      refine ⟨fun p hp => ?_, fun p h1 h2 w hw => ?_, fun j hj => ?_, ⟨?_, ?_, ?_⟩, fun p hp k hk => ?_⟩
      · by_cases c : p = i
        · subst c
          exact ⟨v, a2, z0, z1, z6, fun w w1 w2 w3 w4 => by rw [z _ (by omega) (by omega) (by omega)]; exact b2 p (Nat.le_refl _) (by omega) w w1⟩
        · obtain ⟨u, c1, c2, c3, c4, c5⟩ := b1 p (by omega)
          refine ⟨u, c1, by rw [z _ (by omega) (by omega) (by omega)]; exact c2, by rw [z _ (by omega) (by omega) (by omega)]; exact c3, by rw [z _ (by omega) (by omega) (by omega)]; exact c4, fun w w1 w2 w3 w4 => ?_⟩
          rw [z _ (by omega) (by omega) (by omega)]
          exact c5 w w1 w2 w3 w4
      · rw [z _ (by omega) (by omega) (by omega)]
        exact b2 p (by omega) h2 w hw
      · rw [z _ (by omega) (by omega) (by omega)]
        exact b3 j hj
      · rw [z _ (by omega) (by omega) (by omega)]; exact b4.1
      · rw [z _ (by omega) (by omega) (by omega)]; exact b4.2.1
      · rw [z _ (by omega) (by omega) (by omega)]; exact b4.2.2
      · rw [a4]
        by_cases c : p = i
        · subst c
          rw [if_pos (by omega), h26]
          exact congrArg _ (by omega)
        · rw [if_neg (by omega)]
          exact b5 p (by omega) k hk
    obtain ⟨M', c1, c2, c3⟩ := ih (i + 1) f M1 (by omega) (by omega) (K.mv (fun x hx => a3 x (by omega) (by omega))) (by rw [(a3 20 (by omega) (by omega) 3).1]; exact h3) (fun k => by rw [(a3 26 (by omega) (by omega) k).1]; exact h26 k) hB1
    exact ⟨M', c1, fun x h1 h2 => (a3 x h1 h2).trans (c2 x h1 h2), c3⟩
theorem R_bzero : ∀ (d k f : Nat) (Mx : MZ), k + d = 258 → d < f → (∀ j, j < k → zL Mx 23 j = 0) → ∃ M', g_X12_begins_26 f k Mx = g_X12_begins_48 100000 0 M' ∧ Fr23 Mx M' ∧ (∀ j, j < 258 → zL M' 23 j = 0) := by
  intro d
  induction d with
  | zero =>
    intro k f Mx hk hf hz
    obtain ⟨f, rfl⟩ : ∃ g, f = g + 1 := ⟨f - 1, by omega⟩
    have e : g_X12_begins_26 (f + 1) k Mx = g_X12_begins_26B (g_X12_begins_26 f) k Mx := rfl
    refine ⟨Mx, ?_, Fr23.rfl, fun j hj => hz j (by omega)⟩
    rw [e]
    unfold g_X12_begins_26B
    rw [if_pos (by omega)]
  | succ d ih =>
    intro k f Mx hk hf hz
    obtain ⟨f, rfl⟩ : ∃ g, f = g + 1 := ⟨f - 1, by omega⟩
    have e : g_X12_begins_26 (f + 1) k Mx = g_X12_begins_26B (g_X12_begins_26 f) k Mx := rfl
    rw [e]
    unfold g_X12_begins_26B
    rw [if_neg (by omega), if_pos (by omega), Int.toNat_natCast, w32_id (by omega) (by omega)]
    obtain ⟨M', a1, a2, a3⟩ := ih (k + 1) f (uL Mx 23 k 0) (by omega) (by omega) (fun j hj => by
      by_cases c : j = k
      · subst c; exact zL_at _ _ _ _
      · rw [zL_uL, if_neg (fun q => c q.2)]; exact hz j (by omega))
    exact ⟨M', a1, Fr23_u.trans a2, a3⟩
theorem R_bpurse : ∀ (d k f : Nat) (Mx : MZ), k + d = 20 → d < f → (∀ j, j < 258 → zL Mx 23 j = if 2 ≤ j ∧ j < 2 + k then zI Mx 27 (j - 2) else 0) → ∃ M', g_X12_begins_48 f k Mx = g_X12_begins_77 100000 0 M' ∧ Fr23 Mx M' ∧ (∀ j, j < 258 → zL M' 23 j = if 2 ≤ j ∧ j < 22 then zI Mx 27 (j - 2) else 0) := by
  intro d
  induction d with
  | zero =>
    intro k f Mx hk hf hz
    obtain ⟨f, rfl⟩ : ∃ g, f = g + 1 := ⟨f - 1, by omega⟩
    have e : g_X12_begins_48 (f + 1) k Mx = g_X12_begins_48B (g_X12_begins_48 f) k Mx := rfl
    have : k = 20 := by omega
    subst this
    refine ⟨Mx, ?_, Fr23.rfl, hz⟩
    rw [e]
    unfold g_X12_begins_48B
    rw [if_pos (by omega)]
  | succ d ih =>
    intro k f Mx hk hf hz
    obtain ⟨f, rfl⟩ : ∃ g, f = g + 1 := ⟨f - 1, by omega⟩
    have e : g_X12_begins_48 (f + 1) k Mx = g_X12_begins_48B (g_X12_begins_48 f) k Mx := rfl
    have e2 : w32 (2 + (k : Int)) = ((2 + k : Nat) : Int) := by rw [w32_id (by omega) (by omega)]; omega
    rw [e]
    unfold g_X12_begins_48B
    rw [if_neg (by omega), if_pos (by omega), e2, if_pos (by omega), Int.toNat_natCast, Int.toNat_natCast, w32_id (by omega) (by omega)]
    obtain ⟨M', a1, a2, a3⟩ := ih (k + 1) f (uL Mx 23 (2 + k) (zI Mx 27 k)) (by omega) (by omega) (fun j hj => by
      rw [zI_uL]
      by_cases c : j = 2 + k
      · subst c
        rw [zL_at, if_pos (by omega), show 2 + k - 2 = k by omega]
      · rw [zL_uL, if_neg (fun q => c q.2), hz j hj]
        by_cases c2 : 2 ≤ j ∧ j < 2 + k
        · rw [if_pos c2, if_pos (by omega)]
        · rw [if_neg c2, if_neg (by omega)])
    exact ⟨M', a1, Fr23_u.trans a2, a3⟩
theorem R_begins {Mr : MZ} {po : Nat} (K : KON Mr) (h26 : zI Mr 20 26 = po) (hpo : po ≤ 5) (hr : ∀ q, q < po → (1 ≤ zI Mr 26 (7 * q + 5) ∧ zI Mr 26 (7 * q + 5) ≤ 9999) ∧ (1 ≤ zI Mr 26 (7 * q + 6) ∧ zI Mr 26 (7 * q + 6) ≤ 9999)) : ∃ M', g_X12_begins Mr = some ((), M') ∧ (∀ x, x ≠ 20 → x ≠ 22 → x ≠ 23 → sameH Mr M' x) ∧ (zI M' 20 1 = zI Mr 20 24 ∧ zI M' 20 2 = zI Mr 20 25 ∧ zI M' 20 3 = po) ∧ (∀ k, k ≠ 1 → k ≠ 2 → k ≠ 3 → zI M' 20 k = zI Mr 20 k) ∧ KON M' ∧ BG Mr M' po := by
  obtain ⟨M0, e0⟩ : ∃ M0, uI (uI (uI Mr 20 1 (zI Mr 20 24)) 20 2 (zI Mr 20 25)) 20 3 (zI Mr 20 26) = M0 := ⟨_, rfl⟩
  have f0 : ∀ x, x ≠ 20 → sameH Mr M0 x := fun x hx => by rw [← e0]; exact ((sameH_uI hx).trans (sameH_uI hx)).trans (sameH_uI hx)
  have i0 : ∀ k, k ≠ 1 → k ≠ 2 → k ≠ 3 → zI M0 20 k = zI Mr 20 k := fun k k1 k2 k3 => by
    rw [← e0, zI_uI, if_neg (fun q => k3 q.2), zI_uI, if_neg (fun q => k2 q.2), zI_uI, if_neg (fun q => k1 q.2)]
  have i1 : zI M0 20 1 = zI Mr 20 24 := by rw [← e0, zI_uI, if_neg (by omega), zI_uI, if_neg (by omega), zI_at]
  have i2 : zI M0 20 2 = zI Mr 20 25 := by rw [← e0, zI_uI, if_neg (by omega), zI_at]
  have i3 : zI M0 20 3 = po := by rw [← e0, zI_at, h26]
  have l0 : ∀ k, zL M0 20 k = zL Mr 20 k := fun k => by rw [← e0]; rfl
  have K0 : KON M0 := ⟨fun j hj => by rw [(f0 21 (by omega) j).2.1]; exact K.1 j hj, fun j h1 h2 => by rw [l0]; exact K.2.1 j h1 h2, fun j hj => by rw [(f0 33 (by omega) j).2.1]; exact K.2.2 j hj⟩
  obtain ⟨M1, a1, a2, a3⟩ := R_bzero 258 0 100000 M0 (by omega) (by omega) (fun j hj => absurd hj (by omega))
  obtain ⟨M2, b1, b2, b3⟩ := R_bpurse 20 0 100000 M1 (by omega) (by omega) (fun j hj => by rw [if_neg (by omega)]; exact a3 j hj)
  have F2 := a2.trans b2
  have h27 : ∀ j, zI M1 27 j = zI Mr 27 j := fun j => by rw [(a2 27 (by omega) j).1, (f0 27 (by omega) j).1]
  have B0 : BG Mr M2 0 := by
    refine ⟨fun p hp => absurd hp (by omega), fun p _ h2 w hw => ?_, fun j hj => ?_, ⟨?_, ?_, ?_⟩, fun p hp => absurd hp (by omega)⟩
    · rw [b3 _ (by omega), if_neg (by omega)]
    · rw [b3 _ (by omega), if_pos (by omega), h27, show 2 + j - 2 = j by omega]
    · rw [b3 _ (by omega), if_neg (by omega)]
    · rw [b3 _ (by omega), if_neg (by omega)]
    · rw [b3 _ (by omega), if_neg (by omega)]
  obtain ⟨M3, c1, c2, c3⟩ := R_bpools hpo hr po 0 100000 M2 (by omega) (by omega) (K0.f23 F2) (by rw [(F2 20 (by omega) 3).1]; exact i3) (fun k => by rw [(F2 26 (by omega) k).1, (f0 26 (by omega) k).1]) B0
  have s20 : sameH M0 M3 20 := (F2 20 (by omega)).trans (c2 20 (by omega) (by omega))
  refine ⟨M3, ?_, fun x h1 h2 h3 => ((f0 x h1).trans (F2 x h3)).trans (c2 x h2 h3), ⟨by rw [(s20 1).1]; exact i1, by rw [(s20 2).1]; exact i2, by rw [(s20 3).1]; exact i3⟩, fun k k1 k2 k3 => by rw [(s20 k).1]; exact i0 k k1 k2 k3, (K0.f23 F2).mv (fun x hx => c2 x (by omega) (by omega)), c3⟩
  unfold g_X12_begins g_X12_begins_24
  have q1 : zI (uI Mr 20 1 (zI Mr 20 24)) 20 25 = zI Mr 20 25 := by rw [zI_uI, if_neg (by omega)]
  have q2 : zI (uI (uI Mr 20 1 (zI Mr 20 24)) 20 2 (zI Mr 20 25)) 20 26 = zI Mr 20 26 := by rw [zI_uI, if_neg (by omega), zI_uI, if_neg (by omega)]
  rw [q1, q2, e0]
  exact a1.trans (b1.trans c1)
