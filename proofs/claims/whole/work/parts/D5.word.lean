/-! words along the tape -/
def wc (f : Nat → Int) : Nat → Int
  | 0 => 0
  | m + 1 => 27 * wc f m + f m - 96
def wbd : Nat → Int
  | 0 => 0
  | m + 1 => 27 * wbd m + 26
theorem wbd_7 : ∀ m, m < 8 → wbd m ≤ 10460353202 := by decide
theorem wc_r {f : Nat → Int} : ∀ m, (∀ j, j < m → 97 ≤ f j ∧ f j ≤ 122) → 0 ≤ wc f m ∧ wc f m ≤ wbd m ∧ (0 < m → 0 < wc f m) := by
  intro m
  induction m with
  | zero => intro _; exact ⟨Int.le_refl _, Int.le_refl _, fun q => absurd q (by omega)⟩
  | succ m ih =>
    intro h
    have h1 := ih (fun j hj => h j (by omega))
    have h2 := h m (by omega)
    have e1 : wc f (m + 1) = 27 * wc f m + f m - 96 := rfl
    have e2 : wbd (m + 1) = 27 * wbd m + 26 := rfl
    rw [e1, e2]
    omega
theorem wc_inj {f g : Nat → Int} : ∀ m m', (∀ j, j < m → 97 ≤ f j ∧ f j ≤ 122) → (∀ j, j < m' → 97 ≤ g j ∧ g j ≤ 122) → (wc f m = wc g m' ↔ m = m' ∧ ∀ j, j < m → f j = g j) := by
  intro m
  induction m with
  | zero =>
    intro m' h1 h2
    have r := wc_r m' h2
    have e : wc f 0 = 0 := rfl
    constructor
    · intro q
      refine ⟨?_, fun j hj => absurd hj (by omega)⟩
      rcases Nat.eq_zero_or_pos m' with z | z
      · exact z.symm
      · have := r.2.2 z
        omega
    · intro q
      rw [← q.1]
      rfl
  | succ m ih =>
    intro m' h1 h2
    cases m' with
    | zero =>
      have r := (wc_r (m + 1) h1).2.2 (by omega)
      have e : wc g 0 = 0 := rfl
      constructor
      · intro q; omega
      · intro q; omega
    | succ m' =>
      have i := ih m' (fun j hj => h1 j (by omega)) (fun j hj => h2 j (by omega))
      have a := h1 m (by omega)
      have b := h2 m' (by omega)
      have e1 : wc f (m + 1) = 27 * wc f m + f m - 96 := rfl
      have e2 : wc g (m' + 1) = 27 * wc g m' + g m' - 96 := rfl
      rw [e1, e2]
      constructor
      · intro q
        have q1 : wc f m = wc g m' := by omega
        obtain ⟨q2, q3⟩ := i.mp q1
        subst q2
        refine ⟨rfl, fun j hj => ?_⟩
        rcases (show j < m ∨ j = m by omega) with z | z
        · exact q3 j z
        · subst z; omega
      · intro q
        have q2 : m = m' := by omega
        subst q2
        have := i.mpr ⟨rfl, fun j hj => q.2 j (by omega)⟩
        have := q.2 m (by omega)
        omega
theorem str_ok : ∀ i, i < 12 → isS (301 + i) = true ∧ strN (301 + i) < 8 ∧ 0 < strN (301 + i) ∧ (∀ j, j < strN (301 + i) → 97 ≤ zstrC (301 + i) j ∧ zstrC (301 + i) j ≤ 122) ∧ wc (zstrC (301 + i)) (strN (301 + i)) = (words0.getD (12 + i) 0).toInt := by decide +kernel
def fz (k j : Int) : Int := w32 (w32 (1 + w32 (8 * j)) + k)
def ltE (B : Nat → Int) : Nat → Nat → Nat
  | 0, i => i
  | d + 1, i => if 97 ≤ B i ∧ B i ≤ 122 then ltE B d (i + 1) else i
theorem ltE_le (B : Nat → Int) : ∀ d i, i ≤ ltE B d i ∧ ltE B d i ≤ i + d ∧ (∀ k, i ≤ k → k < ltE B d i → 97 ≤ B k ∧ B k ≤ 122) := by
  intro d
  induction d with
  | zero => intro i; exact ⟨Nat.le_refl _, Nat.le_refl _, fun k h1 h2 => by have e : ltE B 0 i = i := rfl; omega⟩
  | succ d ih =>
    intro i
    have h := ih (i + 1)
    unfold ltE
    split
    · rename_i c
      refine ⟨by omega, by omega, fun k h1 h2 => ?_⟩
      rcases (show k = i ∨ i + 1 ≤ k by omega) with z | z
      · subst z; exact c
      · exact h.2.2 k z h2
    · exact ⟨Nat.le_refl _, by omega, fun k h1 h2 => by omega⟩
section WO
variable {n : Nat} {B : Nat → Int}
theorem K_word_loop (b : BO n B) : ∀ (d i f : Nat) (M : MZ), i + d = n → d < f → TC n B M → zI M 2 5 = i → ∃ M', g_X9_readWord_13 f M = g_X9_readWord_63 M' ∧ zI M' 2 5 = ltE B d i ∧ (∀ x, x ≠ 2 → sameH M M' x) ∧ (∀ k, k ≠ 5 → zI M' 2 k = zI M 2 k) := by
  intro d
  induction d with
  | zero =>
    intro i f M hi hf h h5
    obtain ⟨f, rfl⟩ : ∃ g, f = g + 1 := ⟨f - 1, by omega⟩
    have e : g_X9_readWord_13 (f + 1) M = g_X9_readWord_13B (g_X9_readWord_13 f) M := rfl
    refine ⟨M, ?_, h5, fun _ _ => sameH.rfl, fun _ _ => rfl⟩
    rw [e]
    unfold g_X9_readWord_13B
    rw [h.1, h5, if_pos (by omega)]
  | succ d ih =>
    intro i f M hi hf h h5
    obtain ⟨f, rfl⟩ : ∃ g, f = g + 1 := ⟨f - 1, by omega⟩
    have hb := b.1
    have e : g_X9_readWord_13 (f + 1) M = g_X9_readWord_13B (g_X9_readWord_13 f) M := rfl
    rw [e]
    unfold g_X9_readWord_13B
    rw [h.1, h5, if_neg (by omega), K_byteAt b h]
    simp only [bindS]
    rw [h5, K_byteAt b h]
    simp only [bindS]
    rw [h5]
    by_cases c : 97 ≤ B i ∧ B i ≤ 122
    · have es : ltE B (d + 1) i = ltE B d (i + 1) := if_pos c
      rw [if_neg (by omega), if_neg (by omega), es, w32_id (by omega) (by omega)]
      obtain ⟨M', a1, a2, a3, a4⟩ := ih (i + 1) f (uI M 2 5 ((i : Int) + 1)) (by omega) (by omega) (h.mv (CF_u (by omega))) (zI_at _ _ _ _)
      refine ⟨M', a1, a2, fun x hx => (sameH_uI hx).trans (a3 x hx), fun k hk => ?_⟩
      rw [a4 k hk, zI_uI, if_neg (fun q => hk q.2)]
    · have es : ltE B (d + 1) i = i := if_neg c
      rw [es]
      refine ⟨M, ?_, h5, fun _ _ => sameH.rfl, fun _ _ => rfl⟩
      by_cases c1 : B i < 97
      · rw [if_pos c1]
      · rw [if_neg c1, if_pos (by omega)]
theorem R_word_loop (b : BO n B) {s : Nat} : ∀ (d k f : Nat) (M : MZ), k + d = n → d < f → TR n B M → zI M 20 9 = s → s ≤ k → (∀ j, s ≤ j → j < k → 97 ≤ B j ∧ B j ≤ 122) → g_X12_wordHere_12 f (if k - s ≤ 7 then wc (fun j => B (s + j)) (k - s) else 0) k M = some (if ltE B d k - s ≤ 7 then wc (fun j => B (s + j)) (ltE B d k - s) else 0, M) := by
  have hb := b.1
  have stop : ∀ (k f : Nat) (M : MZ), k ≤ n → TR n B M → zI M 20 9 = s → s ≤ k → ¬ (97 ≤ B k ∧ B k ≤ 122) → g_X12_wordHere_12 (f + 1) (if k - s ≤ 7 then wc (fun j => B (s + j)) (k - s) else 0) k M = some (if k - s ≤ 7 then wc (fun j => B (s + j)) (k - s) else 0, M) := by
    intro k f M hkn h h9 hk hc
    have e : ∀ w, g_X12_wordHere_12 (f + 1) w k M = g_X12_wordHere_12B (g_X12_wordHere_12 f) w k M := fun _ => rfl
    rw [e]
    unfold g_X12_wordHere_12B g_X12_wordHere_77
    rw [R_byteAt b h]
    simp only [bindS]
    rw [R_isLetter]
    simp only [bindS, bI_0]
    rw [if_pos hc, h9, w32_id (by omega) (by omega)]
    by_cases c8 : 8 ≤ (k : Int) - s
    · rw [if_pos c8, if_neg (by omega)]
    · rw [if_neg c8]
  intro d
  induction d with
  | zero =>
    intro k f M hk hf h h9 hs hl
    obtain ⟨f, rfl⟩ : ∃ g, f = g + 1 := ⟨f - 1, by omega⟩
    have en : B k = -1 := b.2 k (by omega)
    exact stop k f M (by omega) h h9 hs (by omega)
  | succ d ih =>
    intro k f M hk hf h h9 hs hl
    obtain ⟨f, rfl⟩ : ∃ g, f = g + 1 := ⟨f - 1, by omega⟩
    by_cases c : 97 ≤ B k ∧ B k ≤ 122
    · have es : ltE B (d + 1) k = ltE B d (k + 1) := if_pos c
      have e : ∀ w, g_X12_wordHere_12 (f + 1) w k M = g_X12_wordHere_12B (g_X12_wordHere_12 f) w k M := fun _ => rfl
      rw [e, es]
      unfold g_X12_wordHere_12B g_X12_wordHere_54
      rw [R_byteAt b h]
      simp only [bindS]
      rw [R_isLetter]
      simp only [bindS, bI_0]
      rw [if_neg (fun q => q c), h9, w32_id (x := (k : Int) - s) (by omega) (by omega), w32_id (x := (k : Int) + 1) (by omega) (by omega)]
      have i := ih (k + 1) f M (by omega) (by omega) h h9 (by omega) (fun j h1 h2 => by
        rcases (show j < k ∨ j = k by omega) with z | z
        · exact hl j h1 z
        · subst z; exact c)
      rw [show (((k + 1 : Nat) : Int)) = (k : Int) + 1 by omega] at i
      by_cases c7 : 7 ≤ (k : Int) - s
      · rw [if_neg (show ¬ k + 1 - s ≤ 7 by omega)] at i
        rw [if_pos c7]
        exact i
      · rw [if_pos (show k + 1 - s ≤ 7 by omega)] at i
        rw [if_neg c7, if_pos (show k - s ≤ 7 by omega), R_byteAt b h]
        simp only [bindS]
        have r := wc_r (f := fun j => B (s + j)) (k - s) (fun j hj => hl (s + j) (by omega) (by omega))
        have rb := wbd_7 (k - s) (by omega)
        have en : k + 1 - s = (k - s) + 1 := by omega
        have ew : wc (fun j => B (s + j)) (k - s + 1) = 27 * wc (fun j => B (s + j)) (k - s) + B k - 96 := by
          show 27 * wc (fun j => B (s + j)) (k - s) + B (s + (k - s)) - 96 = _
          rw [show s + (k - s) = k by omega]
        rw [en, ew] at i
        rw [w64_id (x := 27 * wc (fun j => B (s + j)) (k - s)) (by omega) (by omega), w64_id (x := 27 * wc (fun j => B (s + j)) (k - s) + B k) (by omega) (by omega), w64_id (by omega) (by omega)]
        exact i
    · have es : ltE B (d + 1) k = k := if_neg c
      rw [es]
      exact stop k f M (by omega) h h9 hs c
theorem R_pass_loop (b : BO n B) : ∀ (d i f : Nat) (M : MZ), i + d = n → d < f → TR n B M → zI M 20 9 = i → ∃ M', g_X12_passWord_0 f M = some ((), M') ∧ zI M' 20 9 = ltE B d i ∧ RF M M' := by
  intro d
  induction d with
  | zero =>
    intro i f M hi hf h h5
    obtain ⟨f, rfl⟩ : ∃ g, f = g + 1 := ⟨f - 1, by omega⟩
    have e : g_X12_passWord_0 (f + 1) M = g_X12_passWord_0B (g_X12_passWord_0 f) M := rfl
    have en : B i = -1 := b.2 i (by omega)
    refine ⟨M, ?_, h5, RF.rfl⟩
    rw [e]
    unfold g_X12_passWord_0B
    rw [h5, R_byteAt b h]
    simp only [bindS]
    rw [R_isLetter]
    simp only [bindS, bI_0]
    rw [if_pos (by omega)]
  | succ d ih =>
    intro i f M hi hf h h5
    obtain ⟨f, rfl⟩ : ∃ g, f = g + 1 := ⟨f - 1, by omega⟩
    have hb := b.1
    have e : g_X12_passWord_0 (f + 1) M = g_X12_passWord_0B (g_X12_passWord_0 f) M := rfl
    rw [e]
    unfold g_X12_passWord_0B
    rw [h5, R_byteAt b h]
    simp only [bindS]
    rw [R_isLetter]
    simp only [bindS, bI_0]
    by_cases c : 97 ≤ B i ∧ B i ≤ 122
    · have es : ltE B (d + 1) i = ltE B d (i + 1) := if_pos c
      rw [if_neg (fun q => q c), es, h5, w32_id (by omega) (by omega)]
      obtain ⟨M', a1, a2, a3⟩ := ih (i + 1) f (uI M 20 9 ((i : Int) + 1)) (by omega) (by omega) (h.mv (RF_u (by omega))) (zI_at _ _ _ _)
      exact ⟨M', a1, a2, (RF_u (by omega)).trans a3⟩
    · have es : ltE B (d + 1) i = i := if_neg c
      rw [if_pos c, es]
      exact ⟨M, rfl, h5, RF.rfl⟩
theorem K_wi_loop (b : BO n B) {s m h : Nat} (hS : isS h = true) (hm : s + m ≤ n) {M : MZ} (hT : TC n B M) (h3 : zI M 2 3 = s) (hN : strN h = m) : ∀ (d t f : Nat), t + d = m → d + 1 < f → (∀ j, j < t → B (s + j) = zstrC h j) → ∃ fl, g_X9_wordIs_24 f h 1 t M = some (fl, M) ∧ (fl = 1 ∧ (∀ j, j < m → B (s + j) = zstrC h j) ∨ fl = 0 ∧ ¬ (∀ j, j < m → B (s + j) = zstrC h j)) := by
  have hb := b.1
  intro d
  induction d with
  | zero =>
    intro t f ht hf hj
    obtain ⟨f, rfl⟩ : ∃ g, f = g + 1 := ⟨f - 1, by omega⟩
    have e : g_X9_wordIs_24 (f + 1) h 1 t M = g_X9_wordIs_24B (g_X9_wordIs_24 f) h 1 t M := rfl
    refine ⟨1, ?_, Or.inl ⟨rfl, fun j hjm => hj j (by omega)⟩⟩
    rw [e]
    unfold g_X9_wordIs_24B g_X9_wordIs_66
    rw [if_neg (by omega), if_pos hS, hN, w32_id (by omega) (by omega), if_pos (by omega), if_pos (Or.inr rfl)]
  | succ d ih =>
    intro t f ht hf hj
    obtain ⟨f, rfl⟩ : ∃ g, f = g + 1 := ⟨f - 1, by omega⟩
    have e : g_X9_wordIs_24 (f + 1) h 1 t M = g_X9_wordIs_24B (g_X9_wordIs_24 f) h 1 t M := rfl
    rw [e]
    unfold g_X9_wordIs_24B g_X9_wordIs_59 g_X9_wordIs_66
    rw [if_neg (show ¬ (1 : Int) = 0 by omega), if_pos hS, hN, w32_id (x := ((m : Nat) : Int)) (by omega) (by omega), if_neg (by omega), h3, w32_id (x := (s : Int) + t) (by omega) (by omega), show (s : Int) + t = ((s + t : Nat) : Int) by omega, K_byteAt b hT]
    simp only [bindS]
    rw [if_pos (by omega), Int.toNat_natCast, w32_id (x := (t : Int) + 1) (by omega) (by omega), show (t : Int) + 1 = ((t + 1 : Nat) : Int) by omega]
    by_cases c : B (s + t) = zstrC h t
    · rw [if_pos c]
      exact ih (t + 1) f (by omega) (by omega) (fun j hjt => by
        rcases (show j < t ∨ j = t by omega) with z | z
        · exact hj j z
        · subst z; exact c)
    · rw [if_neg c]
      obtain ⟨f, rfl⟩ : ∃ g, f = g + 1 := ⟨f - 1, by omega⟩
      have e2 : g_X9_wordIs_24 (f + 1) h 0 ((t + 1 : Nat) : Int) M = g_X9_wordIs_24B (g_X9_wordIs_24 f) h 0 ((t + 1 : Nat) : Int) M := rfl
      refine ⟨0, ?_, Or.inr ⟨rfl, fun q => c (q t (by omega))⟩⟩
      rw [e2]
      unfold g_X9_wordIs_24B g_X9_wordIs_66
      rw [if_pos rfl, if_pos (Or.inl rfl)]
theorem K_wordIs (b : BO n B) {s m i : Nat} (hi : i < 12) (hm : s + m ≤ n) {M : MZ} (hT : TC n B M) (h3 : zI M 2 3 = s) (h4 : zI M 2 4 = ((s + m : Nat) : Int)) (hl : ∀ j, j < m → 97 ≤ B (s + j) ∧ B (s + j) ≤ 122) : ∃ fl, g_X9_wordIs (301 + i) M = some (fl, M) ∧ (fl = 1 ∧ (if m ≤ 7 then wc (fun j => B (s + j)) m else 0) = (words0.getD (12 + i) 0).toInt ∨ fl = 0 ∧ (if m ≤ 7 then wc (fun j => B (s + j)) m else 0) ≠ (words0.getD (12 + i) 0).toInt) := by
  obtain ⟨o1, o2, o3, o4, o5⟩ := str_ok i hi
  have hb := b.1
  have inj := wc_inj (f := fun j => B (s + j)) (g := zstrC (301 + i)) m (strN (301 + i)) hl o4
  have pos := (wc_r (f := zstrC (301 + i)) _ o4).2.2 o3
  rw [← o5]
  unfold g_X9_wordIs g_X9_wordIs_21
  rw [if_pos o1, h3, h4, w32_id (x := ((strN (301 + i) : Nat) : Int)) (by omega) (by omega), w32_id (x := ((s + m : Nat) : Int) - s) (by omega) (by omega)]
  by_cases c : strN (301 + i) = m
  · rw [if_pos (by omega), if_pos (show m ≤ 7 by omega), inj]
    obtain ⟨fl, a1, a2⟩ := K_wi_loop b o1 hm hT h3 c m 0 100000 (by omega) (by omega) (fun j hj => absurd hj (by omega))
    refine ⟨fl, a1, ?_⟩
    rcases a2 with ⟨x, y⟩ | ⟨x, y⟩
    · exact Or.inl ⟨x, c.symm, y⟩
    · exact Or.inr ⟨x, fun q => y (inj.mp q).2⟩
  · rw [if_neg (by omega)]
    have e2 : g_X9_wordIs_24 100000 (301 + i) 0 0 M = g_X9_wordIs_24B (g_X9_wordIs_24 99999) (301 + i) 0 0 M := rfl
    refine ⟨0, ?_, Or.inr ⟨rfl, ?_⟩⟩
    · rw [e2]
      unfold g_X9_wordIs_24B g_X9_wordIs_66
      rw [if_pos rfl, if_pos (Or.inl rfl)]
    · split
      · intro q
        exact c (inj.mp q).1.symm
      · omega
theorem sim_word (b : BO n B) {i : Nat} {Mc Mr : MZ} (h : SR n B i Mc Mr) : ∃ (s m : Nat) (w : Int) (Mc' Mr' : MZ), g_X9_readWord Mc = some (if 0 < m then 1 else 0, Mc') ∧ g_X12_wordHere Mr = some (w, Mr') ∧ CF Mc Mc' ∧ RF Mr Mr' ∧ zI Mr' 20 9 = s ∧ zI Mc' 2 5 = ((s + m : Nat) : Int) ∧ zI Mc' 2 3 = s ∧ zI Mc' 2 4 = ((s + m : Nat) : Int) ∧ s + m ≤ n ∧ (m = 0 → zI Mc' 2 1 = fz 0 s ∧ w = 0) ∧ (∀ M'', TC n B M'' → zI M'' 2 3 = s → zI M'' 2 4 = ((s + m : Nat) : Int) → ∀ hh, hh < 12 → ∃ fl, g_X9_wordIs (301 + hh) M'' = some (fl, M'') ∧ (fl = 1 ∧ w = (words0.getD (12 + hh) 0).toInt ∨ fl = 0 ∧ w ≠ (words0.getD (12 + hh) 0).toInt)) ∧ (∀ M'', TR n B M'' → zI M'' 20 9 = s → ∃ M3, g_X12_passWord M'' = some ((), M3) ∧ RF M'' M3 ∧ zI M3 20 9 = ((s + m : Nat) : Int)) := by
  obtain ⟨s, Mc1, Mr1, a1, a2, a3, a4, a5, a6, a7, a8, a9⟩ := sim_peek b h
  obtain ⟨s1, s2, s3, s4, s5⟩ := a3
  have hb := b.1
  have cf1 : CF Mc1 (uI Mc1 2 3 s) := CF_u (by omega)
  obtain ⟨l1, l2, l3⟩ := ltE_le B (n - s) s
  obtain ⟨Mc2, b1, b2, b3, b4⟩ := K_word_loop b (n - s) s 100000 (uI Mc1 2 3 s) (by omega) (by omega) (s1.mv cf1) (by rw [zI_uI, if_neg (by omega)]; exact s3)
  have hw := R_word_loop (s := s) b (n - s) s 100000 Mr1 (by omega) (by omega) s2 s4 (Nat.le_refl _) (fun j h1 h2 => absurd h2 (by omega))
  rw [Nat.sub_self, if_pos (show (0 : Nat) ≤ 7 by omega), show wc (fun j => B (s + j)) 0 = 0 from rfl] at hw
  have hpass : ∀ M'', TR n B M'' → zI M'' 20 9 = s → ∃ M3, g_X12_passWord M'' = some ((), M3) ∧ RF M'' M3 ∧ zI M3 20 9 = ltE B (n - s) s := fun M'' t1 t2 => by
    obtain ⟨M3, x1, x2, x3⟩ := R_pass_loop b (n - s) s 100000 M'' (by omega) (by omega) t1 t2
    exact ⟨M3, x1, x3, x2⟩
  generalize ltE B (n - s) s = e at *
  have e3 : zI Mc2 2 3 = s := by rw [b4 3 (by omega), zI_at]
  have cf2 : CF (uI Mc1 2 3 s) Mc2 := ⟨b3, b4 0 (by omega)⟩
  have cf3 : CF Mc2 (uI Mc2 2 4 e) := CF_u (by omega)
  have q3 : zI (uI Mc2 2 4 (e : Int)) 2 3 = s := by rw [zI_uI, if_neg (by omega)]; exact e3
  have q4 : zI (uI Mc2 2 4 (e : Int)) 2 4 = e := zI_at _ _ _ _
  have q5 : zI (uI Mc2 2 4 (e : Int)) 2 5 = e := by rw [zI_uI, if_neg (by omega)]; exact b2
  have ese : s + (e - s) = e := by omega
  have hcl : ∃ Mc', g_X9_readWord_63 Mc2 = some (if 0 < e - s then 1 else 0, Mc') ∧ CF (uI Mc2 2 4 e) Mc' ∧ (∀ k, k ≠ 1 → zI Mc' 2 k = zI (uI Mc2 2 4 (e : Int)) 2 k) ∧ (e - s = 0 → zI Mc' 2 1 = fz 0 s) := by
    unfold g_X9_readWord_63 g_X9_readWord_94 g_X9_readWord_99 g_X9_blame
    rw [b2, q3, q4]
    by_cases c : s < e
    · rw [if_pos (by omega), if_pos (Or.inr rfl), if_pos (show 0 < e - s by omega)]
      exact ⟨_, rfl, CF.rfl, fun _ _ => rfl, fun q => absurd q (by omega)⟩
    · rw [if_neg (by omega), if_neg (show ¬ 0 < e - s by omega)]
      simp only [bindS]
      rw [if_pos trivial]
      refine ⟨uI (uI Mc2 2 4 e) 2 1 (fz 0 s), ?_, CF_u (by omega), fun k hk => by rw [zI_uI, if_neg (fun q => hk q.2)], fun _ => zI_at _ _ _ _⟩
      rw [if_pos (Or.inl trivial)]
      rfl
  obtain ⟨Mc', d1, d2, d3, d4⟩ := hcl
  refine ⟨s, e - s, if e - s ≤ 7 then wc (fun j => B (s + j)) (e - s) else 0, Mc', Mr1, ?_, ?_, ((a4.trans cf1).trans cf2).trans (cf3.trans d2), a5, s4, ?_, ?_, ?_, by omega, fun q => ⟨d4 q, ?_⟩, ?_, ?_⟩
  · unfold g_X9_readWord
    rw [a1]
    simp only [bindS]
    rw [s3, b1]
    exact d1
  · unfold g_X12_wordHere
    rw [a2]
    simp only [bindS]
    rw [s4]
    exact hw
  · rw [d3 5 (by omega), q5, ese]
  · rw [d3 3 (by omega), q3]
  · rw [d3 4 (by omega), q4, ese]
  · rw [q]; rfl
  · intro M'' t1 t2 t3 hh hlt
    exact K_wordIs b hlt (by omega) t1 t2 t3 (fun j hj => l3 (s + j) (by omega) (by omega))
  · intro M'' t1 t2
    rw [ese]
    exact hpass M'' t1 t2
end WO
