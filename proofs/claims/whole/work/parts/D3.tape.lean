/-! reading along the tape: bytes, blanks, letters, digits -/
def TC (n : Nat) (B : Nat → Int) (M : MZ) : Prop := zI M 2 0 = n ∧ (∀ k, k < n → and32 (zI M 3 k) 255 = B k)
def TR (n : Nat) (B : Nat → Int) (M : MZ) : Prop := zI M 20 8 = n ∧ (∀ k, k < n → and32 (zI M 25 k) 255 = B k)
def BO (n : Nat) (B : Nat → Int) : Prop := n ≤ 400 ∧ (∀ k, n ≤ k → B k = -1)
/-- of the tape's own cells: what reading changes -/
def CF (M M' : MZ) : Prop := (∀ x, x ≠ 2 → sameH M M' x) ∧ zI M' 2 0 = zI M 2 0
def RF (M M' : MZ) : Prop := (∀ x, x ≠ 20 → sameH M M' x) ∧ (∀ k, k ≠ 9 → k ≠ 10 → k ≠ 11 → zI M' 20 k = zI M 20 k) ∧ (∀ k, zL M' 20 k = zL M 20 k)
theorem CF.rfl {M : MZ} : CF M M := ⟨fun _ _ => sameH.rfl, Eq.refl _⟩
theorem RF.rfl {M : MZ} : RF M M := ⟨fun _ _ => sameH.rfl, fun _ _ _ _ => Eq.refl _, fun _ => Eq.refl _⟩
theorem CF.trans {M M' M'' : MZ} (a : CF M M') (b : CF M' M'') : CF M M'' := ⟨fun x hx => (a.1 x hx).trans (b.1 x hx), b.2.trans a.2⟩
theorem RF.trans {M M' M'' : MZ} (a : RF M M') (b : RF M' M'') : RF M M'' := ⟨fun x hx => (a.1 x hx).trans (b.1 x hx), fun k h1 h2 h3 => (b.2.1 k h1 h2 h3).trans (a.2.1 k h1 h2 h3), fun k => (b.2.2 k).trans (a.2.2 k)⟩
theorem CF_u {M : MZ} {k : Nat} {v : Int} (hk : k ≠ 0) : CF M (uI M 2 k v) := ⟨fun x hx => sameH_uI hx, by rw [zI_uI, if_neg (fun q => hk q.2.symm)]⟩
theorem RF_u {M : MZ} {k : Nat} {v : Int} (hk : k = 9 ∨ k = 10 ∨ k = 11) : RF M (uI M 20 k v) := ⟨fun x hx => sameH_uI hx, fun j h1 h2 h3 => by rw [zI_uI, if_neg (by omega)], fun _ => Eq.refl _⟩
theorem TC.mv {n : Nat} {B : Nat → Int} {M M' : MZ} (h : TC n B M) (f : CF M M') : TC n B M' := ⟨by rw [f.2]; exact h.1, fun k hk => by rw [(f.1 3 (by omega) k).1]; exact h.2 k hk⟩
theorem TR.mv {n : Nat} {B : Nat → Int} {M M' : MZ} (h : TR n B M) (f : RF M M') : TR n B M' := ⟨by rw [f.2.1 8 (by omega) (by omega) (by omega)]; exact h.1, fun k hk => by rw [(f.1 25 (by omega) k).1]; exact h.2 k hk⟩
theorem KON.rf {M M' : MZ} (K : KON M) (f : RF M M') : KON M' := ⟨fun j hj => by rw [(f.1 21 (by omega) j).2.1]; exact K.1 j hj, fun j h1 h2 => by rw [f.2.2]; exact K.2.1 j h1 h2, fun j hj => by rw [(f.1 33 (by omega) j).2.1]; exact K.2.2 j hj⟩
theorem K_byteAt {n : Nat} {B : Nat → Int} {M : MZ} (b : BO n B) (h : TC n B M) (k : Nat) : g_X9_byteAt k M = some (B k, M) := by
  unfold g_X9_byteAt g_X9_byteAt_34 g_X9_byteAt_35
  have := b.1
  rw [if_neg (by omega), h.1]
  by_cases c : n ≤ k
  · rw [if_pos (by omega), b.2 k c]
  · rw [if_neg (by omega), if_neg (by omega), if_pos (by omega), Int.toNat_natCast, h.2 k (by omega)]
theorem R_byteAt {n : Nat} {B : Nat → Int} {M : MZ} (b : BO n B) (h : TR n B M) (k : Nat) : g_X12_byteAt k M = some (B k, M) := by
  unfold g_X12_byteAt g_X12_byteAt_22
  have := b.1
  rw [h.1]
  by_cases c : n ≤ k
  · rw [if_pos (by omega), b.2 k c]
  · rw [if_neg (by omega), if_pos (by omega), Int.toNat_natCast, h.2 k (by omega)]
def sk (B : Nat → Int) : Nat → Nat → Nat
  | 0, i => i
  | d + 1, i => if B i = 32 then sk B d (i + 1) else i
theorem sk_le (B : Nat → Int) : ∀ d i, i ≤ sk B d i ∧ sk B d i ≤ i + d := by
  intro d
  induction d with
  | zero => intro i; exact ⟨Nat.le_refl _, Nat.le_refl _⟩
  | succ d ih =>
    intro i
    have := ih (i + 1)
    unfold sk
    split <;> omega
theorem sk_nb (B : Nat → Int) {n : Nat} (hB : B n = -1) : ∀ d i, i + d = n → B (sk B d i) ≠ 32 := by
  intro d
  induction d with
  | zero =>
    intro i hi
    show B i ≠ 32
    rw [show i = n by omega, hB]
    omega
  | succ d ih =>
    intro i hi
    unfold sk
    split
    · exact ih (i + 1) (by omega)
    · assumption
section TP
variable {n : Nat} {B : Nat → Int}
theorem K_peek_loop (b : BO n B) : ∀ (d i f : Nat) (M : MZ), i + d = n → d < f → TC n B M → zI M 2 5 = i → ∃ M', g_X9_peek_0 f M = some (B (sk B d i), M') ∧ zI M' 2 5 = sk B d i ∧ (∀ x, x ≠ 2 → sameH M M' x) ∧ (∀ k, k ≠ 5 → zI M' 2 k = zI M 2 k) := by
  intro d
  induction d with
  | zero =>
    intro i f M hi hf h h5
    obtain ⟨f, rfl⟩ : ∃ g, f = g + 1 := ⟨f - 1, by omega⟩
    have e : g_X9_peek_0 (f + 1) M = g_X9_peek_0B (g_X9_peek_0 f) M := rfl
    refine ⟨M, ?_, h5, fun _ _ => sameH.rfl, fun _ _ => rfl⟩
    rw [e]
    unfold g_X9_peek_0B g_X9_peek_37
    rw [h.1, h5, if_pos (by omega), K_byteAt b h]
    simp only [bindS]
    rfl
  | succ d ih =>
    intro i f M hi hf h h5
    obtain ⟨f, rfl⟩ : ∃ g, f = g + 1 := ⟨f - 1, by omega⟩
    have e : g_X9_peek_0 (f + 1) M = g_X9_peek_0B (g_X9_peek_0 f) M := rfl
    have hb := b.1
    rw [e]
    unfold g_X9_peek_0B g_X9_peek_37
    rw [h.1, h5, if_neg (by omega), K_byteAt b h]
    simp only [bindS]
    by_cases c : B i = 32
    · have es : sk B (d + 1) i = sk B d (i + 1) := if_pos c
      rw [if_pos c, h5, es, w32_id (by omega) (by omega)]
      obtain ⟨M', a1, a2, a3, a4⟩ := ih (i + 1) f (uI M 2 5 ((i : Int) + 1)) (by omega) (by omega) (h.mv (CF_u (by omega))) (zI_at _ _ _ _)
      refine ⟨M', a1, a2, fun x hx => (sameH_uI hx).trans (a3 x hx), fun k hk => ?_⟩
      rw [a4 k hk, zI_uI, if_neg (fun q => hk q.2)]
    · have es : sk B (d + 1) i = i := if_neg c
      rw [if_neg c, h5, K_byteAt b h, es]
      simp only [bindS]
      exact ⟨M, rfl, h5, fun _ _ => sameH.rfl, fun _ _ => rfl⟩
theorem K_peek (b : BO n B) {i : Nat} {M : MZ} (hi : i ≤ n) (h : TC n B M) (h5 : zI M 2 5 = i) : ∃ M', g_X9_peek M = some (B (sk B (n - i) i), M') ∧ zI M' 2 5 = sk B (n - i) i ∧ (∀ x, x ≠ 2 → sameH M M' x) ∧ (∀ k, k ≠ 5 → zI M' 2 k = zI M 2 k) :=
  K_peek_loop b (n - i) i 100000 M (by omega) (by have := b.1; omega) h h5
theorem R_next_loop (b : BO n B) : ∀ (d i f : Nat) (M : MZ), i + d = n → d < f → TR n B M → zI M 20 9 = i → ∃ M', g_X12_next_0 f M = some (B (sk B d i), M') ∧ zI M' 20 9 = sk B d i ∧ RF M M' ∧ (∀ k, k ≠ 9 → zI M' 20 k = zI M 20 k) := by
  intro d
  induction d with
  | zero =>
    intro i f M hi hf h h5
    obtain ⟨f, rfl⟩ : ∃ g, f = g + 1 := ⟨f - 1, by omega⟩
    have e : g_X12_next_0 (f + 1) M = g_X12_next_0B (g_X12_next_0 f) M := rfl
    refine ⟨M, ?_, h5, RF.rfl, fun _ _ => rfl⟩
    have en : B i = -1 := b.2 i (by omega)
    have es : sk B 0 i = i := rfl
    rw [e, es]
    unfold g_X12_next_0B
    rw [h5, R_byteAt b h]
    simp only [bindS]
    rw [if_neg (by omega), h5, R_byteAt b h]
    simp only [bindS]
  | succ d ih =>
    intro i f M hi hf h h5
    obtain ⟨f, rfl⟩ : ∃ g, f = g + 1 := ⟨f - 1, by omega⟩
    have e : g_X12_next_0 (f + 1) M = g_X12_next_0B (g_X12_next_0 f) M := rfl
    have hb := b.1
    rw [e]
    unfold g_X12_next_0B
    rw [h5, R_byteAt b h]
    simp only [bindS]
    by_cases c : B i = 32
    · have es : sk B (d + 1) i = sk B d (i + 1) := if_pos c
      rw [if_pos c, h5, es, w32_id (by omega) (by omega)]
      obtain ⟨M', a1, a2, a3, a4⟩ := ih (i + 1) f (uI M 20 9 ((i : Int) + 1)) (by omega) (by omega) (h.mv (RF_u (by omega))) (zI_at _ _ _ _)
      refine ⟨M', a1, a2, (RF_u (by omega)).trans a3, fun k hk => ?_⟩
      rw [a4 k hk, zI_uI, if_neg (fun q => hk q.2)]
    · have es : sk B (d + 1) i = i := if_neg c
      rw [if_neg c, h5, R_byteAt b h, es]
      simp only [bindS]
      exact ⟨M, rfl, h5, RF.rfl, fun _ _ => rfl⟩
theorem R_next (b : BO n B) {i : Nat} {M : MZ} (hi : i ≤ n) (h : TR n B M) (h5 : zI M 20 9 = i) : ∃ M', g_X12_next M = some (B (sk B (n - i) i), M') ∧ zI M' 20 9 = sk B (n - i) i ∧ RF M M' ∧ (∀ k, k ≠ 9 → zI M' 20 k = zI M 20 k) :=
  R_next_loop b (n - i) i 100000 M (by omega) (by have := b.1; omega) h h5
theorem K_isDigit (v : Int) (M : MZ) : g_X9_isDigit v M = some (bI (48 ≤ v ∧ v ≤ 57), M) := by
  unfold g_X9_isDigit g_X9_isDigit_16 g_X9_isDigit_17 bI
  repeat' split
  all_goals first | rfl | omega
theorem R_isDigit (v : Int) (M : MZ) : g_X12_isDigit v M = some (bI (48 ≤ v ∧ v ≤ 57), M) := by
  unfold g_X12_isDigit g_X12_isDigit_16 g_X12_isDigit_17 bI
  repeat' split
  all_goals first | rfl | omega
theorem R_isLetter (v : Int) (M : MZ) : g_X12_isLetter v M = some (bI (97 ≤ v ∧ v ≤ 122), M) := by
  unfold g_X12_isLetter g_X12_isLetter_16 g_X12_isLetter_17 bI
  repeat' split
  all_goals first | rfl | omega
/-- where both stand -/
def SR (n : Nat) (B : Nat → Int) (i : Nat) (Mc Mr : MZ) : Prop := TC n B Mc ∧ TR n B Mr ∧ zI Mc 2 5 = i ∧ zI Mr 20 9 = i ∧ i ≤ n
theorem sim_peek (b : BO n B) {i : Nat} {Mc Mr : MZ} (h : SR n B i Mc Mr) : ∃ (j : Nat) (Mc' Mr' : MZ), g_X9_peek Mc = some (B j, Mc') ∧ g_X12_next Mr = some (B j, Mr') ∧ SR n B j Mc' Mr' ∧ CF Mc Mc' ∧ RF Mr Mr' ∧ (∀ k, k ≠ 5 → zI Mc' 2 k = zI Mc 2 k) ∧ (∀ k, k ≠ 9 → zI Mr' 20 k = zI Mr 20 k) ∧ j = sk B (n - i) i ∧ B j ≠ 32 := by
  obtain ⟨h1, h2, h3, h4, h5⟩ := h
  obtain ⟨Mc', a1, a2, a3, a4⟩ := K_peek b h5 h1 h3
  obtain ⟨Mr', b1, b2, b3, b4⟩ := R_next b h5 h2 h4
  have cf : CF Mc Mc' := ⟨a3, a4 0 (by omega)⟩
  have hl := sk_le B (n - i) i
  exact ⟨sk B (n - i) i, Mc', Mr', a1, b1, ⟨h1.mv cf, h2.mv b3, a2, b2, by omega⟩, cf, b3, a4, b4, rfl, sk_nb B (b.2 n (Nat.le_refl _)) _ _ (by omega)⟩
/-- blanks already passed: nothing moves -/
theorem sk_stay {B : Nat → Int} {d i : Nat} (h : B i ≠ 32) : sk B d i = i := by
  cases d with
  | zero => rfl
  | succ d => exact if_neg h
theorem sim_accept (b : BO n B) {i : Nat} {Mc Mr : MZ} (h : SR n B i Mc Mr) {c : Int} (hc : 0 ≤ c) : ∃ (fl : Int) (Mc' Mr' : MZ) (j : Nat), g_X9_accept c Mc = some (fl, Mc') ∧ g_X12_takesSign c Mr = some (fl, Mr') ∧ SR n B j Mc' Mr' ∧ CF Mc Mc' ∧ RF Mr Mr' ∧ (fl = 1 ∨ fl = 0 ∧ B j ≠ c ∧ B j ≠ 32) := by
  obtain ⟨j, Mc', Mr', a1, a2, a3, a4, a5, a6, a7, a8, a9⟩ := sim_peek b h
  unfold g_X9_accept g_X12_takesSign
  rw [a1, a2]
  simp only [bindS]
  by_cases e : B j = c
  · obtain ⟨s1, s2, s3, s4, s5⟩ := a3
    have hj : j < n := by
      rcases Nat.lt_or_ge j n with q | q
      · exact q
      · have := b.2 j q
        omega
    have := b.1
    rw [if_pos e, if_pos e, s3, s4, w32_id (by omega) (by omega)]
    refine ⟨1, _, _, j + 1, rfl, rfl, ⟨s1.mv (CF_u (by omega)), s2.mv (RF_u (by omega)), zI_at _ _ _ _, zI_at _ _ _ _, by omega⟩, a4.trans (CF_u (by omega)), a5.trans (RF_u (by omega)), Or.inl rfl⟩
  · rw [if_neg e, if_neg e]
    exact ⟨0, Mc', Mr', j, rfl, rfl, a3, a4, a5, Or.inr ⟨rfl, e, a9⟩⟩
end TP
