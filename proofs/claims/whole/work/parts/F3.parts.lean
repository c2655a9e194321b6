/-! parts -/
def prA (a : Int) (k : Nat) : Int := a * k / 10 - a * ((k : Int) - 1) / 10
def prt (T : Nat → Int) (po fr to a : Int) : Nat → Nat → (Nat → Int) → List (Nat → Int) → Int → Int → Nat → Option (Int × Int)
  | 0, _, _, _, g, o, _ => some (g, o)
  | m + 1, k, N, L, g, o, f =>
    if prA a k = 0 then prt T po fr to a m (k + 1) N L g o f
    else if (best N T L po fr to (prA a k)).2.2 = 0 then none
    else prt T po fr to a m (k + 1) (alg T (best N T L po fr to (prA a k)).2.2 (rlen (best N T L po fr to (prA a k)).2.2) fr (prA a k) N L).1 (alg T (best N T L po fr to (prA a k)).2.2 (rlen (best N T L po fr to (prA a k)).2.2) fr (prA a k) N L).2 (g + ((best N T L po fr to (prA a k)).1 + prA a k)) (if (best N T L po fr to (prA a k)).2.2 = (if f = 0 then (best N T L po fr to (prA a k)).2.2 else f) then o else o + 1) (if f = 0 then (best N T L po fr to (prA a k)).2.2 else f)
theorem prA_r {a : Int} (ha : 1 ≤ a ∧ a ≤ 9999999) {k : Nat} (hk : 1 ≤ k ∧ k ≤ 10) : 0 ≤ prA a k ∧ prA a k ≤ 9999999 := by
  have h : ∀ k : Nat, 1 ≤ k ∧ k ≤ 10 → k = 1 ∨ k = 2 ∨ k = 3 ∨ k = 4 ∨ k = 5 ∨ k = 6 ∨ k = 7 ∨ k = 8 ∨ k = 9 ∨ k = 10 := by intro k hk; omega
  unfold prA
  rcases h k hk with e | e | e | e | e | e | e | e | e | e <;> rw [e] <;> omega
theorem prA_m {a : Int} (ha : 1 ≤ a ∧ a ≤ 9999999) {k : Nat} (hk : 1 ≤ k ∧ k ≤ 10) : (0 ≤ a * k ∧ a * k ≤ 99999990) ∧ (0 ≤ a * ((k : Int) - 1) ∧ a * ((k : Int) - 1) ≤ 99999990) := by
  have h : ∀ k : Nat, 1 ≤ k ∧ k ≤ 10 → k = 1 ∨ k = 2 ∨ k = 3 ∨ k = 4 ∨ k = 5 ∨ k = 6 ∨ k = 7 ∨ k = 8 ∨ k = 9 ∨ k = 10 := by intro k hk; omega
  rcases h k hk with e | e | e | e | e | e | e | e | e | e <;> rw [e] <;> omega
/-- what the parts say -/
def prV (w : Int) (x : Option (Int × Int)) : Int := match x with
  | none => -2
  | some (g, o) => if w = 0 then w32 g else o
section PA
variable {T : Nat → Int} {th pe po fr to a : Int}
theorem K_parts_loop (hfr : 0 ≤ fr ∧ fr < 5) (hto : 0 ≤ to) (ha : 1 ≤ a ∧ a ≤ 9999999) (w : Int) : ∀ (m k f : Nat) (M : MZ) (N : Nat → Int) (L : List (Nat → Int)) (g o : Int) (r0 : Nat), k + m = 11 → 1 ≤ k → m < f → Rep false M 143 N T L th pe po → WF N T L th pe po → (0 ≤ g ∧ g ≤ 9000000000 * ((k : Int) - 1)) → (0 ≤ o ∧ o ≤ (k : Int) - 1) → r0 < 216 → ∃ M', g_X11_parts_46 f fr to a w g o (if r0 = 0 then 0 else (cdr r0 : Int)) k M = some (prV w (prt T po fr to a m k N L g o r0), M') ∧ HP M' 143 ∧ (∀ x, x ≠ 4 → ¬ (14 ≤ x ∧ x < 20) → ¬ (143 ≤ x ∧ x < 143 + 65) → sameH M M' x) := by
  intro m
  induction m with
  | zero =>
    intro k f M N L g o r0 hk hk1 hf R W hg ho hr0
    obtain ⟨f, rfl⟩ : ∃ g, f = g + 1 := ⟨f - 1, by omega⟩
    have e : g_X11_parts_46 (f + 1) fr to a w g o (if r0 = 0 then 0 else (cdr r0 : Int)) k M = g_X11_parts_46B (g_X11_parts_46 f) fr to a w g o (if r0 = 0 then 0 else (cdr r0 : Int)) k M := rfl
    rw [e]
    unfold g_X11_parts_46B g_X11_parts_205
    rw [if_pos (by omega)]
    refine ⟨M, ?_, R.2.2.2.2.2.1, fun _ _ _ _ => sameH.rfl⟩
    unfold prt prV
    by_cases c : w = 0
    · rw [if_pos c]
      simp only [if_pos c]
    · rw [if_neg c]
      simp only [if_neg c]
  | succ m ih =>
    intro k f M N L g o r0 hk hk1 hf R W hg ho hr0
    obtain ⟨f, rfl⟩ : ∃ g, f = g + 1 := ⟨f - 1, by omega⟩
    have e : g_X11_parts_46 (f + 1) fr to a w g o (if r0 = 0 then 0 else (cdr r0 : Int)) k M = g_X11_parts_46B (g_X11_parts_46 f) fr to a w g o (if r0 = 0 then 0 else (cdr r0 : Int)) k M := rfl
    rw [e]
    have hm := prA_m ha (k := k) (by omega)
    have hA := prA_r ha (k := k) (by omega)
    unfold g_X11_parts_46B
    rw [if_neg (by omega), w32_id (x := (k : Int) - 1) (by omega) (by omega), w32_id (x := a * (k : Int)) (by omega) (by omega), w32_id (x := a * ((k : Int) - 1)) (by omega) (by omega), Int.tdiv_eq_ediv_of_nonneg hm.1.1, Int.tdiv_eq_ediv_of_nonneg hm.2.1, w32_id (x := a * (k : Int) / 10) (by omega) (by omega), w32_id (x := a * ((k : Int) - 1) / 10) (by omega) (by omega), show a * (k : Int) / 10 - a * ((k : Int) - 1) / 10 = prA a k from rfl, w32_id (x := prA a k) (by omega) (by omega)]
    rw [prt]
    unfold g_X11_parts_72 g_X11_parts_186
    by_cases c0 : prA a k = 0
    · rw [if_pos (by omega), if_pos c0, w32_id (x := (k : Int) + 1) (by omega) (by omega), show (k : Int) + 1 = ((k + 1 : Nat) : Int) by omega]
      exact ih (k + 1) f M N L g o r0 (by omega) (by omega) (by omega) R W (by omega) (by omega) hr0
    rw [if_neg (by omega), if_neg c0]
    generalize prA a k = A at *
    unfold g_X1_forget
    simp only [bindS]
    rw [w32_id (x := -A) (by omega) (by omega)]
    have F0 : ∀ x, x ≠ 14 → sameH M (uI (uI (uL M 14 0 (-A)) 14 1 0) 14 2 0) x := fun x h1 => ((sameH_uL h1).trans (sameH_uI h1)).trans (sameH_uI h1)
    have B0 : BS (uI (uI (uL M 14 0 (-A)) 14 1 0) 14 2 0) (-A, 0, 0) := ⟨rfl, rfl, rfl, by show (0 : Nat) < 216; omega, fun j hj => absurd hj (by show ¬ j < 0; omega)⟩
    generalize uI (uI (uL M 14 0 (-A)) 14 1 0) 14 2 0 = M0 at *
    have R0 : Rep false M0 143 N T L th pe po := R.same (fun h h1 h2 => F0 h (by omega))
    obtain ⟨M1, s1, s2, s3⟩ := K_search b143 R0 W (fr := fr) (to := to) (a := A) hfr hto (by omega) B0
    have R1 : Rep false M1 143 N T L th pe po := R0.same (fun h h1 h2 => s3 h (by omega) (by omega))
    have F1 : ∀ x, x ≠ 4 → ¬ (14 ≤ x ∧ x < 20) → ¬ (143 ≤ x ∧ x < 143 + 65) → sameH M M1 x := fun x h1 h2 _ => (F0 x (by omega)).trans (s3 x h1 h2)
    have hb := best_r (fr := fr) (to := to) (a := A) W R.2.2.2.2.2.2 (by omega)
    have s2' : BS M1 (best N T L po fr to A) := s2
    rw [s1]
    simp only [bindS]
    have s2'' := s2'
    obtain ⟨q1, q2, q3, q4, q5⟩ := s2''
    rw [q3]
    by_cases c1 : (best N T L po fr to A).2.2 = 0
    · rw [if_pos (by unfold rl; rw [if_pos c1]; rfl), if_pos c1]
      exact ⟨M1, rfl, R1.2.2.2.2.2.1, F1⟩
    have erl : rl (best N T L po fr to A).2.2 = rlen (best N T L po fr to A).2.2 := if_neg c1
    have hr3 := rlen_r (best N T L po fr to A).2.2
    rw [if_neg (by rw [erl]; omega), if_neg c1]
    have hch := best_chk (N := N) (T := T) (L := L) (po := po) (fr := fr) (to := to) (a := A) (by omega) c1
    rw [erl] at q3 q5
    obtain ⟨M2, t1, t2, t3, t4⟩ := K_follow_loop hb.1 (rlen (best N T L po fr to A).2.2) 100000 fr A M1 N L _ _ (by omega) (by omega) hch R1 W (by omega) q3 q5
    rw [Nat.sub_self, show ((0 : Nat) : Int) = 0 from rfl] at t1
    have t1' : g_X1_follow 143 fr A M1 = some ((), M2) := t1
    have hcode := K_bestCode s2' c1
    have hcx := cdr_r hb.1
    generalize best N T L po fr to A = s at *
    -- the first row there was
    have go : ∀ r1 : Nat, r1 ≠ 0 → r1 < 216 → ∃ M', g_X11_parts_132 (g_X11_parts_46 f) fr to a w g o k A (cdr r1 : Int) M1 = some (prV w (prt T po fr to a m (k + 1) (alg T s.2.2 (rlen s.2.2) fr A N L).1 (alg T s.2.2 (rlen s.2.2) fr A N L).2 (g + (s.1 + A)) (if s.2.2 = r1 then o else o + 1) r1), M') ∧ HP M' 143 ∧ (∀ x, x ≠ 4 → ¬ (14 ≤ x ∧ x < 20) → ¬ (143 ≤ x ∧ x < 143 + 65) → sameH M M' x) := by
      intro r1 h1 h2
      unfold g_X11_parts_132
      rw [hcode]
      simp only [bindS]
      have hcr := cdr_r h2
      have fin : ∀ o' : Int, (0 ≤ o' ∧ o' ≤ (k : Int)) → ∃ M', g_X11_parts_156 (g_X11_parts_46 f) fr to a w g o' (cdr r1 : Int) k A M1 = some (prV w (prt T po fr to a m (k + 1) (alg T s.2.2 (rlen s.2.2) fr A N L).1 (alg T s.2.2 (rlen s.2.2) fr A N L).2 (g + (s.1 + A)) o' r1), M') ∧ HP M' 143 ∧ (∀ x, x ≠ 4 → ¬ (14 ≤ x ∧ x < 20) → ¬ (143 ≤ x ∧ x < 143 + 65) → sameH M M' x) := by
        intro o' ho'
        unfold g_X11_parts_156 g_X11_parts_172 g_X11_parts_186
        rw [q1, w64_id (x := s.1 + A) (by omega) (by omega), w64_id (x := g + (s.1 + A)) (by omega) (by omega), t1']
        simp only [bindS]
        rw [w32_id (x := (k : Int) + 1) (by omega) (by omega), show (k : Int) + 1 = ((k + 1 : Nat) : Int) by omega]
        obtain ⟨M3, u1, u2, u3⟩ := ih (k + 1) f M2 _ _ (g + (s.1 + A)) o' r1 (by omega) (by omega) (by omega) t2 t3 (by omega) (by omega) h2
        rw [if_neg h1] at u1
        exact ⟨M3, u1, u2, fun x x1 x2 x3 => ((F1 x x1 x2 x3).trans (t4 x x1 x3)).trans (u3 x x1 x2 x3)⟩
      unfold g_X11_parts_153
      by_cases c : s.2.2 = r1
      · rw [if_pos c, if_pos (show (cdr s.2.2 : Int) = (cdr r1 : Int) by rw [c]), w32_id (x := o + 0) (by omega) (by omega), show o + 0 = o by omega]
        exact fin o (by omega)
      · rw [if_neg c, if_neg (show ¬ (cdr s.2.2 : Int) = (cdr r1 : Int) from fun q => c (cdr_inj hb.1 h2 (by omega))), w32_id (x := o + 1) (by omega) (by omega)]
        exact fin (o + 1) (by omega)
    by_cases c2 : r0 = 0
    · rw [if_pos (if_pos c2), hcode]
      simp only [bindS, if_pos c2, if_true]
      have h := go s.2.2 c1 hb.1
      rw [if_pos (Eq.refl s.2.2)] at h
      exact h
    · have hcr := cdr_r hr0
      rw [if_neg (by rw [if_neg c2]; omega)]
      simp only [if_neg c2]
      exact go r0 c2 hr0
/-- what the parts leave alone in the reference -/
def FrQ (M M' : MZ) : Prop := (∀ x, x ≠ 20 → x ≠ 23 → x ≠ 24 → sameH M M' x) ∧ (∀ k, k ≠ 33 → k ≠ 52 → k ≠ 54 → zI M' 20 k = zI M 20 k) ∧ (∀ k, 258 ≤ k → zL M' 24 k = zL M 24 k)
theorem FrQ.trans {M M' M'' : MZ} (a : FrQ M M') (b : FrQ M' M'') : FrQ M M'' := ⟨fun x h1 h2 h3 => (a.1 x h1 h2 h3).trans (b.1 x h1 h2 h3), fun k h1 h2 h3 => (b.2.1 k h1 h2 h3).trans (a.2.1 k h1 h2 h3), fun k hk => (b.2.2 k hk).trans (a.2.2 k hk)⟩
theorem FrQ.ofP {M M' : MZ} (h : FrP M M') : FrQ M M' := ⟨h.1, fun k a b _ => h.2.1 k a b, h.2.2.2⟩
theorem FrQ.ofS {M M' : MZ} (h : FrS M M') : FrQ M M' := ⟨fun x h1 h2 _ => h.1 x h1 h2, fun k a _ _ => h.2.1 k a, fun k _ => (h.1 24 (by omega) (by omega) k).2.1⟩
theorem R_parts_loop (hfr : 0 ≤ fr ∧ fr < 5) (ha : 1 ≤ a ∧ a ≤ 9999999) : ∀ (m k f : Nat) (M : MZ) (N : Nat → Int) (L : List (Nat → Int)) (g o : Int) (r0 : Nat), k + m = 11 → 1 ≤ k → m < f → RepR M N T L th pe po → KON M → WF N T L th pe po → (0 ≤ g ∧ g ≤ 9000000000 * ((k : Int) - 1)) → (0 ≤ o ∧ o ≤ (k : Int) - 1) → r0 < 216 → zL M 20 53 = g → zI M 20 54 = o → ∃ v M', g_X12_goesByParts_16 f fr to a r0 k M = some (v, M') ∧ (prt T po fr to a m k N L g o r0 = none ∧ v = 0 ∨ prt T po fr to a m k N L g o r0 = some (zL M' 20 53, zI M' 20 54) ∧ v = 1) ∧ KON M' ∧ FrQ M M' := by
  intro m
  induction m with
  | zero =>
    intro k f M N L g o r0 hk hk1 hf R K W hg ho hr0 e53 e54
    obtain ⟨f, rfl⟩ : ∃ g, f = g + 1 := ⟨f - 1, by omega⟩
    have e : g_X12_goesByParts_16 (f + 1) fr to a r0 k M = g_X12_goesByParts_16B (g_X12_goesByParts_16 f) fr to a r0 k M := rfl
    rw [e]
    unfold g_X12_goesByParts_16B
    rw [if_pos (by omega)]
    exact ⟨1, M, rfl, Or.inr ⟨by rw [e53, e54]; rfl, rfl⟩, K, ⟨fun _ _ _ _ => sameH.rfl, fun _ _ _ _ => Eq.refl _, fun _ _ => Eq.refl _⟩⟩
  | succ m ih =>
    intro k f M N L g o r0 hk hk1 hf R K W hg ho hr0 e53 e54
    obtain ⟨f, rfl⟩ : ∃ g, f = g + 1 := ⟨f - 1, by omega⟩
    have e : g_X12_goesByParts_16 (f + 1) fr to a r0 k M = g_X12_goesByParts_16B (g_X12_goesByParts_16 f) fr to a r0 k M := rfl
    rw [e]
    have hm := prA_m ha (k := k) (by omega)
    have hA := prA_r ha (k := k) (by omega)
    unfold g_X12_goesByParts_16B
    rw [if_neg (by omega), w32_id (x := (k : Int) - 1) (by omega) (by omega), w64_id (x := a * (k : Int)) (by omega) (by omega), w64_id (x := a * ((k : Int) - 1)) (by omega) (by omega), Int.tdiv_eq_ediv_of_nonneg hm.1.1, Int.tdiv_eq_ediv_of_nonneg hm.2.1, w64_id (x := a * (k : Int) / 10) (by omega) (by omega), w64_id (x := a * ((k : Int) - 1) / 10) (by omega) (by omega), show a * (k : Int) / 10 - a * ((k : Int) - 1) / 10 = prA a k from rfl, w64_id (x := prA a k) (by omega) (by omega)]
    rw [prt]
    unfold g_X12_goesByParts_46 g_X12_goesByParts_133
    by_cases c0 : prA a k = 0
    · rw [if_pos c0, if_pos c0, w32_id (x := (k : Int) + 1) (by omega) (by omega), show (k : Int) + 1 = ((k + 1 : Nat) : Int) by omega]
      exact ih (k + 1) f M N L g o r0 (by omega) (by omega) (by omega) R K W (by omega) (by omega) hr0 e53 e54
    rw [if_neg c0, if_neg c0]
    generalize prA a k = A at *
    obtain ⟨M1, t1, t2, t3, t4, t5, t6⟩ := R_routes R K W (fr := fr) (to := to) (a := A) hfr (by omega)
    have hb := best_r (fr := fr) (to := to) (a := A) W R.2.2.2.2.2 (by omega)
    rw [t1]
    simp only [bindS]
    rw [t2]
    by_cases c1 : (best N T L po fr to A).2.2 = 0
    · rw [if_pos (hb.2.2.2 c1), if_pos c1]
      exact ⟨0, M1, rfl, Or.inl ⟨rfl, rfl⟩, t5, FrQ.ofP t6⟩
    rw [if_neg (fun q => c1 (hb.2.2.1 q)), if_neg c1]
    have hch := best_chk (N := N) (T := T) (L := L) (po := po) (fr := fr) (to := to) (a := A) (by omega) c1
    generalize best N T L po fr to A = s at *
    have f53 : zL M1 20 53 = g := (t6.2.2.1 53 (by omega) (by omega)).trans e53
    have f54 : zI M1 20 54 = o := (t6.2.1 54 (by omega) (by omega)).trans e54
    have go : ∀ r1 : Nat, r1 < 216 → ∃ v M', g_X12_goesByParts_86 (g_X12_goesByParts_16 f) fr to a r1 k A M1 = some (v, M') ∧ (prt T po fr to a m (k + 1) (alg T s.2.2 (rlen s.2.2) fr A N L).1 (alg T s.2.2 (rlen s.2.2) fr A N L).2 (g + (s.1 + A)) (if s.2.2 = r1 then o else o + 1) r1 = none ∧ v = 0 ∨ prt T po fr to a m (k + 1) (alg T s.2.2 (rlen s.2.2) fr A N L).1 (alg T s.2.2 (rlen s.2.2) fr A N L).2 (g + (s.1 + A)) (if s.2.2 = r1 then o else o + 1) r1 = some (zL M' 20 53, zI M' 20 54) ∧ v = 1) ∧ KON M' ∧ FrQ M M' := by
      intro r1 h2
      have fin : ∀ o' : Int, (0 ≤ o' ∧ o' ≤ (k : Int)) → ∀ MM, MM = uI (uL M1 20 53 (g + (s.1 + A))) 20 54 o' → ∃ v M', ((g_X12_goesAlong (zI MM 20 52) fr A MM).bind fun q130 => (g_X12_goesByParts_133 (g_X12_goesByParts_16 f) fr to a r1 k q130.2)) = some (v, M') ∧ (prt T po fr to a m (k + 1) (alg T s.2.2 (rlen s.2.2) fr A N L).1 (alg T s.2.2 (rlen s.2.2) fr A N L).2 (g + (s.1 + A)) o' r1 = none ∧ v = 0 ∨ prt T po fr to a m (k + 1) (alg T s.2.2 (rlen s.2.2) fr A N L).1 (alg T s.2.2 (rlen s.2.2) fr A N L).2 (g + (s.1 + A)) o' r1 = some (zL M' 20 53, zI M' 20 54) ∧ v = 1) ∧ KON M' ∧ FrQ M M' := by
        intro o' ho' MM eM
        have m52 : zI MM 20 52 = (s.2.2 : Int) := by rw [eM, zI_uI, if_neg (by omega)]; exact t3
        have m53 : zL MM 20 53 = g + (s.1 + A) := by rw [eM, zL_uI, zL_at]
        have m54 : zI MM 20 54 = o' := by rw [eM, zI_at]
        have FM : FrQ M1 MM := by
          rw [eM]
          exact ⟨fun x h1 _ _ => (sameH_uL h1).trans (sameH_uI h1), fun k _ _ h => by rw [zI_uI, if_neg (fun q => h q.2)]; rfl, fun k _ => by rw [zL_uI, zL_uL, if_neg (by omega)]⟩
        have RM : RepR MM N T L th pe po := by
          rw [eM]
          exact t4.f20 (fun x hx => (sameH_uL (by omega)).trans (sameH_uI (by omega))) (fun k hk => by rw [zI_uI, if_neg (by omega)]; rfl)
        have KM : KON MM := by
          rw [eM]
          exact t5.f20 (fun x hx => (sameH_uL (by omega)).trans (sameH_uI (by omega))) (fun k hk => by rw [zL_uI, zL_uL, if_neg (by omega)])
        have hr3 := rlen_r s.2.2
        obtain ⟨M2, u1, u2, u3, u4⟩ := R_goes_loop hb.1 (rlen s.2.2) 100000 fr A MM N L _ _ (by omega) (by omega) hch RM KM W (by omega)
        rw [Nat.sub_self, show ((0 : Nat) : Int) = 0 from rfl] at u1
        have u1' : g_X12_goesAlong (s.2.2 : Int) fr A MM = some ((), M2) := u1
        rw [m52, u1']
        simp only [bindS]
        unfold g_X12_goesByParts_133
        rw [w32_id (x := (k : Int) + 1) (by omega) (by omega), show (k : Int) + 1 = ((k + 1 : Nat) : Int) by omega]
        have hWn := alg_WF hb.1 hch W R.2.2.2.2.2 (a := A) (by omega)
        obtain ⟨v, M3, v1, v2, v3, v4⟩ := ih (k + 1) f M2 _ _ (g + (s.1 + A)) o' r1 (by omega) (by omega) (by omega) u2 u3 hWn (by omega) (by omega) h2 ((u4.2.2 53 (by omega)).trans m53) ((u4.2.1 54 (by omega)).trans m54)
        exact ⟨v, M3, v1, v2, v3, (((FrQ.ofP t6).trans FM).trans (FrQ.ofS u4)).trans v4⟩
      unfold g_X12_goesByParts_86 g_X12_goesByParts_118
      rw [f53, t2, w64_id (x := g + (s.1 + A)) (by omega) (by omega)]
      have z52 : zI (uL M1 20 53 (g + (s.1 + A))) 20 52 = (s.2.2 : Int) := t3
      have z54 : zI (uL M1 20 53 (g + (s.1 + A))) 20 54 = o := f54
      rw [z52, z54]
      by_cases c : s.2.2 = r1
      · rw [if_pos (show (s.2.2 : Int) = (r1 : Int) by omega)]
        simp only [if_pos c]
        rw [w32_id (x := o + 0) (by omega) (by omega), show o + 0 = o by omega]
        exact fin o (by omega) _ rfl
      · rw [if_neg (show ¬ (s.2.2 : Int) = (r1 : Int) by omega)]
        simp only [if_neg c]
        rw [w32_id (x := o + 1) (by omega) (by omega)]
        exact fin (o + 1) (by omega) _ rfl
    by_cases c2 : r0 = 0
    · rw [if_pos (by omega), t3]
      simp only [if_pos c2, if_true]
      have h := go s.2.2 hb.1
      rw [if_pos (Eq.refl s.2.2)] at h
      exact h
    · rw [if_neg (by omega)]
      simp only [if_neg c2]
      exact go r0 hr0
theorem q_parts {M : MZ} (h : IV M) (fr to a w : Int) : ∃ r M1 M2, g_X11_parts fr to a w M = some (r, M1) ∧ g_X12_parts fr to a w M1 = some (r, M2) ∧ IV M2 := by
  have h0 := h
  obtain ⟨N, T, L, th, pe, po, R, RR, W, hM, hk, ht, hH, K, hA⟩ := h
  have hpe := W.1.r
  have h12 := R.2.2.2.2.2.2
  unfold g_X11_parts g_X11_parts_21
  rw [K_canWander R]
  simp only [bindS, bI_0]
  by_cases hw : ((0 ≤ fr ∧ fr < th) ∧ (0 ≤ to ∧ to < th) ∧ fr ≠ to) ∧ (1 ≤ a ∧ a ≤ 9999999)
  case neg =>
    rw [if_pos hw]
    refine ⟨_, M, M, rfl, ?_, h0⟩
    unfold g_X12_parts g_X12_parts_21
    rw [R_isWay RR]
    simp only [bindS, bI_0]
    rw [if_pos hw]
  case pos =>
    rw [if_neg (fun q => q hw)]
    by_cases hi : 0 ≤ w ∧ w ≤ 1
    case neg =>
      have e : ∀ X : Option (Int × MZ), (if w < 0 then some ((-1 : Int), M) else if w ≤ 1 then X else some (-1, M)) = some (-1, M) := by
        intro X
        by_cases c : w < 0
        · rw [if_pos c]
        · rw [if_neg c, if_neg (by omega)]
      rw [e]
      refine ⟨-1, M, M, rfl, ?_, h0⟩
      unfold g_X12_parts g_X12_parts_21
      rw [R_isWay RR]
      simp only [bindS, bI_0]
      rw [if_neg (fun q => q hw), R_isIn]
      simp only [bindS, bI_0]
      rw [if_pos hi]
    case pos =>
      rw [if_neg (show ¬ w < 0 by omega), if_pos hi.2]
      obtain ⟨M0, a1, a2, a3⟩ := K_copyFrom b143 b78 (by omega) R hpe.2.2 hH
      have A2 := a2.weak
      rw [a1]
      simp only [bindS]
      obtain ⟨M1, s1, s2, s3⟩ := K_parts_loop (fr := fr) (to := to) (a := a) (by omega) (by omega) hw.2 w 10 1 100000 M0 N L 0 0 0 (by omega) (by omega) (by omega) A2 W (by omega) (by omega) (by omega)
      rw [if_pos rfl, show ((1 : Nat) : Int) = 1 from rfl] at s1
      have F1 : ∀ x, x ≠ 4 → ¬ (14 ≤ x ∧ x < 20) → ¬ (143 ≤ x ∧ x < 143 + 65) → sameH M M1 x := fun x h1 h2 h3 => (a3 x h3).trans (s3 x h1 h2 h3)
      have RR1 : RepR M1 N T L th pe po := RR.same (fun h h1 h2 => F1 h (by omega) (by omega) (by omega))
      have K1 : KON M1 := K.mv (fun x hx => F1 x (by omega) (by omega) (by omega))
      obtain ⟨M2, k1, k2, k3, k4, k5⟩ := R_keepR RR1 K1 (lv := 1) (by omega)
      have k1' : g_X12_keeps 1 M1 = some ((), M2) := k1
      have FW : FrQ M2 (uI (uL M2 20 53 0) 20 54 0) := ⟨fun x h1 _ _ => (sameH_uL h1).trans (sameH_uI h1), fun k _ _ h => by rw [zI_uI, if_neg (fun q => h q.2)]; rfl, fun k _ => by rw [zL_uI, zL_uL, if_neg (by omega)]⟩
      have RW : RepR (uI (uL M2 20 53 0) 20 54 0) N T L th pe po := k2.f20 (fun x hx => (sameH_uL (by omega)).trans (sameH_uI (by omega))) (fun k hk => FW.2.1 k (by omega) (by omega) (by omega))
      have KW : KON (uI (uL M2 20 53 0) 20 54 0) := k3.f20 (fun x hx => (sameH_uL (by omega)).trans (sameH_uI (by omega))) (fun k hk => by rw [zL_uI, zL_uL, if_neg (by omega)])
      obtain ⟨v, M3, v1, v2, v3, v4⟩ := R_parts_loop (fr := fr) (to := to) (a := a) (by omega) hw.2 10 1 100000 (uI (uL M2 20 53 0) 20 54 0) N L 0 0 0 (by omega) (by omega) (by omega) RW KW W (by omega) (by omega) (by omega) (by rw [zL_uI, zL_at]) (by rw [zI_at])
      have v1' : g_X12_goesByParts fr to a M2 = some (v, M3) := v1
      have FF := FW.trans v4
      obtain ⟨M4, l1, l2, l3⟩ := R_laysBack (lv := 1) (by omega) M3
      have l1' : g_X12_laysBack 1 M3 = some ((), M4) := l1
      have RR4 : RepR M4 N T L th pe po := RR1.back k4 k5 (fun k hk => FF.2.1 k (by omega) (by omega) (by omega)) (FF.1 22 (by omega) (by omega) (by omega)) (fun k h1 _ => FF.2.2 k (by omega)) l2 l3
      have K4 : KON M4 := v3.mv (fun x hx => l2 x (by omega))
      have hIV : IV M4 := IV_mk3 F1 s2 (fun x h1 h2 h3 => ((k4 x h3).trans (FF.1 x h1 h2 h3)).trans (l2 x h2)) (by rw [(l2 20 (by omega) 8).1, FF.2.1 8 (by omega) (by omega) (by omega), (k4 20 (by omega) 8).1]) R RR4 W hM hk ht K4 hA
      refine ⟨_, M1, M4, s1, ?_, hIV⟩
      unfold g_X12_parts g_X12_parts_21
      rw [R_isWay RR1]
      simp only [bindS, bI_0]
      rw [if_neg (fun q => q hw), R_isIn]
      simp only [bindS, bI_0]
      rw [if_neg (fun q => q hi), k1']
      simp only [bindS]
      rw [v1']
      simp only [bindS]
      rw [l1']
      simp only [bindS]
      unfold g_X12_parts_70 prV
      rcases v2 with ⟨x1, x2⟩ | ⟨x1, x2⟩
      · rw [x1, x2, if_pos rfl]
      · rw [x1, x2, if_neg (by omega), (l2 20 (by omega) 53).2.1, (l2 20 (by omega) 54).1]
        by_cases c : w = 0
        · rw [if_pos c]
          simp only [if_pos c]
        · rw [if_neg c]
          simp only [if_neg c]
theorem ok_parts (a b c d : Int32) : SO INV (f_X11_parts a b c d) (f_X12_parts a b c d) := SO_of (IV := IV) (fun _ => l_X11_parts rfl rfl rfl rfl rfl) (fun _ => l_X12_parts rfl rfl rfl rfl rfl) (fun _ h => q_parts h _ _ _ _)
end PA
