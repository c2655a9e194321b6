/-! the steps done one behind another -/
def finO (per : Int) (M : MZ) : Option (Unit × MZ) := (g_X10_finish per M).bind fun q => some ((), q.2)
section RL3
variable {M : MZ} {b : Nat} {kk : Bool} {T : Nat → Int} {th pe po : Int}
theorem loopO_end (o : Int) (f : Nat) (per e i : Int) {M : MZ} (hi : i < 1000) (h : zL M 4 10 ≤ 0 ∨ zI M 4 6 = 1) : loopO o (f + 1) per e i M = finO per M := by
  by_cases ho : o = 0
  · unfold loopO
    rw [if_pos ho]
    have e1 : g_X10_pour_61 (f + 1) per e i M = g_X10_pour_61B (g_X10_pour_61 f) per e i M := rfl
    have e2 : g_X10_pour_131 per M = finO per M := rfl
    rw [e1]
    unfold g_X10_pour_61B
    rw [if_neg (by omega), e2]
    rcases h with c | c
    · rw [if_pos c]
    · rw [c, if_neg (show ¬ (1 : Int) = 0 by omega), ite_self]
  · unfold loopO
    rw [if_neg ho]
    have e1 : g_X10_drain_28 (f + 1) per e i M = g_X10_drain_28B (g_X10_drain_28 f) per e i M := rfl
    have e2 : g_X10_drain_98 per M = finO per M := rfl
    rw [e1]
    unfold g_X10_drain_28B
    rw [if_neg (by omega), e2]
    rcases h with c | c
    · rw [if_pos c]
    · rw [c, if_neg (show ¬ (1 : Int) = 0 by omega), ite_self]
theorem loopO_real (o : Int) (f : Nat) (per e i : Int) {M M1 M2 : MZ} (hi : i < 1000) (h10 : ¬ zL M 4 10 ≤ 0) (h6 : zI M 4 6 = 0) (hs : stepO o e M = some ((), M1)) (h4 : zI M1 4 4 = 1) (hd : dropO M1 = some ((), M2)) : loopO o (f + 1) per e i M = loopO o f per e (w32 (i + 1)) M2 := by
  unfold dropO at hd
  by_cases ho : o = 0
  · unfold stepO at hs
    rw [if_pos ho] at hs
    unfold loopO
    rw [if_pos ho, if_pos ho]
    have e1 : g_X10_pour_61 (f + 1) per e i M = g_X10_pour_61B (g_X10_pour_61 f) per e i M := rfl
    rw [e1]
    unfold g_X10_pour_61B g_X10_pour_125
    rw [if_neg (by omega), if_neg h10, if_pos h6, hs]
    simp only [bindS]
    rw [h4, if_neg (show ¬ (1 : Int) = 0 by omega)]
    by_cases c : zI M1 4 7 = -1
    · rw [if_pos c] at hd ⊢
      cases hd
      rfl
    · rw [if_neg c] at hd ⊢
      by_cases c2 : kd (zR M1 4 0) = (1, 9)
      · rw [if_pos c2] at hd ⊢
        rw [hd]
        simp only [bindS]
      · rw [if_neg c2] at hd
        cases hd
  · unfold stepO at hs
    rw [if_neg ho] at hs
    unfold loopO
    rw [if_neg ho, if_neg ho]
    have e1 : g_X10_drain_28 (f + 1) per e i M = g_X10_drain_28B (g_X10_drain_28 f) per e i M := rfl
    rw [e1]
    unfold g_X10_drain_28B g_X10_drain_92
    rw [if_neg (by omega), if_neg h10, if_pos h6, hs]
    simp only [bindS]
    rw [h4, if_neg (show ¬ (1 : Int) = 0 by omega)]
    by_cases c : zI M1 4 7 = -1
    · rw [if_pos c] at hd ⊢
      cases hd
      rfl
    · rw [if_neg c] at hd ⊢
      by_cases c2 : kd (zR M1 4 0) = (1, 9)
      · rw [if_pos c2] at hd ⊢
        rw [hd]
        simp only [bindS]
      · rw [if_neg c2] at hd
        cases hd
theorem K_real_loop (hb : bOK b) {p : Nat} {side e o : Int} (hpb : Pbg p po side e o) (per : Int) : ∀ (n f i : Nat) (M : MZ) (ae : Bool) (s : SW) (Nc : Nat → Int), swm p side e ae s ≤ n → n < f → i + n < 1000 → Rep kk M b Nc T s.2.1 th pe po → Pd (dlt p (xk side) s.2.2.2.1 s.2.2.2.2.1 s.2.2.2.2.2.2) Nc s.1 → WF s.1 T s.2.1 th pe po → TP M b p side 1 ae (toP p s) → Pae p side e ae s → ∃ (M' : MZ) (ae' : Bool) (Nc' : Nat → Int), loopO o f per e i M = finO per M' ∧ Rep kk M' b Nc' T (swp T p side e o n ae s).2.1 th pe po ∧ Pd (dlt p (xk side) (swp T p side e o n ae s).2.2.2.1 (swp T p side e o n ae s).2.2.2.2.1 (swp T p side e o n ae s).2.2.2.2.2.2) Nc' (swp T p side e o n ae s).1 ∧ WF (swp T p side e o n ae s).1 T (swp T p side e o n ae s).2.1 th pe po ∧ TP M' b p side 1 ae' (toP p (swp T p side e o n ae s)) ∧ (∀ x, x ≠ 4 → ¬ (b ≤ x ∧ x < b + 65) → sameH M M' x) := by
  intro n
  induction n with
  | zero =>
    intro f i M ae s Nc hm hf hi R h W hS ha
    obtain ⟨f, rfl⟩ : ∃ g, f = g + 1 := ⟨f - 1, by omega⟩
    have hn : s.2.2.1 ≤ 0 ∨ ae = true := by
      rcases Classical.em (s.2.2.1 ≤ 0 ∨ ae = true) with c | c
      · exact c
      · exfalso
        have hg := Pgo_of (T := T) hpb ha c
        have hge := hg.2.2.2.2.2.1
        unfold swm at hm
        rw [if_neg c] at hm
        rcases hpb.2.2.1 with rfl | rfl
        · rw [if_pos rfl] at hge hm; omega
        · rw [if_neg (by omega)] at hge hm; omega
    have z10 : zL M 4 10 = s.2.2.1 := hS.1.2.2.2.2.2.2.2.1
    refine ⟨M, ae, Nc, loopO_end o f per e i (by omega) ?_, R, h, W, hS, fun _ _ _ => sameH.rfl⟩
    rcases hn with c | c
    · left; rw [z10]; exact c
    · right; rw [hS.2.2.2.2, c]; rfl
  | succ n ih =>
    intro f i M ae s Nc hm hf hi R h W hS ha
    obtain ⟨f, rfl⟩ : ∃ g, f = g + 1 := ⟨f - 1, by omega⟩
    have z10 : zL M 4 10 = s.2.2.1 := hS.1.2.2.2.2.2.2.2.1
    have e2 : swp T p side e o (n + 1) ae s = if s.2.2.1 ≤ 0 ∨ ae = true then s else swp T p side e o n (xE s.1 T s.2.1 p side e o s.2.2.1) (swS T p side e o s) := rfl
    by_cases c : s.2.2.1 ≤ 0 ∨ ae = true
    · rw [e2, if_pos c]
      refine ⟨M, ae, Nc, loopO_end o f per e i (by omega) ?_, R, h, W, hS, fun _ _ _ => sameH.rfl⟩
      rcases c with c | c
      · left; rw [z10]; exact c
      · right; rw [hS.2.2.2.2, c]; rfl
    · rw [e2, if_neg c]
      have hae : ae = false := by
        cases ae
        · rfl
        · exact absurd (Or.inr rfl) c
      obtain ⟨M1, M2, N2, a1, a2, a3, a4, a5, a6, a7⟩ := K_step_real hb R h W hS hpb ha c
      obtain ⟨q1, q2, q3, q4⟩ := swS_next hpb ha c W R.2.2.2.2.2.2
      obtain ⟨M3, ae3, N3, b1, b2, b3, b4, b5, b6⟩ := ih f (i + 1) M2 _ _ N2 (by omega) (by omega) (by omega) a4 a5 q1 a6 q3
      refine ⟨M3, ae3, N3, ?_, b2, b3, b4, b5, fun x hx hx2 => (a7 x hx hx2).trans (b6 x hx hx2)⟩
      have z6 : zI M 4 6 = 0 := by rw [hS.2.2.2.2, hae]; rfl
      rw [loopO_real o f per e i (by omega) (by rw [z10]; exact fun q => c (Or.inl q)) z6 a1 a2 a3, w32_id (by omega) (by omega), show (i : Int) + 1 = ((i + 1 : Nat) : Int) by omega]
      exact b1
end RL3
