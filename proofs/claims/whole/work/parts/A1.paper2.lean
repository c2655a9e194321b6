/-! pouring and draining on paper -/
section PQ
variable {M : MZ} {b : Nat} {kk : Bool} {N T : Nat → Int} {L : List (Nat → Int)} {th pe po : Int}
theorem Rep.not4 {M' : MZ} (hb : bOK b) (R : Rep kk M b N T L th pe po) (h : ∀ x, x ≠ 4 → sameH M M' x) : Rep kk M' b N T L th pe po := R.same (fun x h1 _ => h x (by rcases hb with rfl | rfl <;> omega))
theorem K_finish0 {M : MZ} (m4 : zI M 4 4 = 0) (per : Int) : g_X10_finish per M = some ((), M) := by
  unfold g_X10_finish g_X10_finish_17
  rw [m4, if_pos rfl]
def loopO (o : Int) (f : Nat) (per e i : Int) (M : MZ) : Option (Unit × MZ) := if o = 0 then g_X10_pour_61 f per e i M else g_X10_drain_28 f per e i M
theorem loopO_step (o : Int) (f : Nat) (per e i : Int) {M : MZ} (m4 : ∀ M', stepO o e M = some ((), M') → zI M' 4 4 = 0) (z4 : zI M 4 4 = 0) : loopO o (f + 1) per e i M = if 1000 ≤ i then some ((), M) else if zL M 4 10 ≤ 0 then some ((), M) else if zI M 4 6 = 0 then ((stepO o e M).bind fun q => loopO o f per e (w32 (i + 1)) q.2) else some ((), M) := by
  unfold loopO
  by_cases ho : o = 0
  · rw [if_pos ho]
    have e1 : g_X10_pour_61 (f + 1) per e i M = g_X10_pour_61B (g_X10_pour_61 f) per e i M := rfl
    rw [e1]
    unfold g_X10_pour_61B g_X10_pour_131 g_X10_pour_125
    rw [K_finish0 z4]
    simp only [bindS]
    have es : stepO o e M = g_X10_pourStep e M := if_pos ho
    rw [es] at m4 ⊢
    cases hq : g_X10_pourStep e M with
    | none => rfl
    | some q =>
      have := m4 q.2 (by rw [hq])
      simp only [bindS]
      rw [this, if_pos rfl, if_pos ho]
  · rw [if_neg ho]
    have e1 : g_X10_drain_28 (f + 1) per e i M = g_X10_drain_28B (g_X10_drain_28 f) per e i M := rfl
    rw [e1]
    unfold g_X10_drain_28B g_X10_drain_98 g_X10_drain_92
    rw [K_finish0 z4]
    simp only [bindS]
    have es : stepO o e M = g_X10_drainStep e M := if_neg ho
    rw [es] at m4 ⊢
    cases hq : g_X10_drainStep e M with
    | none => rfl
    | some q =>
      have := m4 q.2 (by rw [hq])
      simp only [bindS]
      rw [this, if_pos rfl, if_neg ho]
theorem K_paper_loop (hb : bOK b) (hT : ∀ p : Nat, p < 5 → (p : Int) < po → Told T th p) (hL : Lok pe po L) {p : Nat} {side e o : Int} (hpb : Pbg p po side e o) (per : Int) : ∀ (n f i : Nat) (M : MZ) (ae : Bool) (s : PT), ptm side e ae s ≤ n → n < f → i + n < 1000 → Rep kk M b N T L th pe po → TP M b p side 0 ae s → Qae side e ae s → ∃ (M' : MZ) (ae' : Bool), loopO o f per e i M = some ((), M') ∧ TP M' b p side 0 ae' (pth T L p side e o n ae s) ∧ (∀ x, x ≠ 4 → sameH M M' x) ∧ Qae side e ae' (pth T L p side e o n ae s) := by
  intro n
  induction n with
  | zero =>
    intro f i M ae s hm hf hi R hS ha
    obtain ⟨f, rfl⟩ : ∃ g, f = g + 1 := ⟨f - 1, by omega⟩
    have hn : s.2.2.1 ≤ 0 ∨ ae = true := by
      rcases Classical.em (s.2.2.1 ≤ 0 ∨ ae = true) with c | c
      · exact c
      · exfalso
        have hg := Qgo_of hpb ha c
        have hge := hg.2.2.2.2.2.1
        unfold ptm at hm
        rw [if_neg c] at hm
        rcases hpb.2.2.1 with rfl | rfl
        · rw [if_pos rfl] at hge hm; omega
        · rw [if_neg (by omega)] at hge hm; omega
    have z4 : zI M 4 4 = 0 := hS.1.2.2.2.2.1
    have z10 : zL M 4 10 = s.2.2.1 := hS.1.2.2.2.2.2.2.2.1
    have hend : loopO o (f + 1) per e i M = some ((), M) := by
      by_cases ho : o = 0
      · unfold loopO
        rw [if_pos ho]
        have e1 : g_X10_pour_61 (f + 1) per e i M = g_X10_pour_61B (g_X10_pour_61 f) per e i M := rfl
        rw [e1]
        unfold g_X10_pour_61B g_X10_pour_131
        rw [K_finish0 z4, z10]
        simp only [bindS]
        rw [if_neg (by omega)]
        rcases hn with c | c
        · rw [if_pos c]
        · have z6 : zI M 4 6 = 1 := by rw [hS.2.2.2.2, c]; rfl
          rw [z6, if_neg (show ¬ (1 : Int) = 0 by omega), ite_self]
      · unfold loopO
        rw [if_neg ho]
        have e1 : g_X10_drain_28 (f + 1) per e i M = g_X10_drain_28B (g_X10_drain_28 f) per e i M := rfl
        rw [e1]
        unfold g_X10_drain_28B g_X10_drain_98
        rw [K_finish0 z4, z10]
        simp only [bindS]
        rw [if_neg (by omega)]
        rcases hn with c | c
        · rw [if_pos c]
        · have z6 : zI M 4 6 = 1 := by rw [hS.2.2.2.2, c]; rfl
          rw [z6, if_neg (show ¬ (1 : Int) = 0 by omega), ite_self]
    exact ⟨M, ae, hend, hS, fun _ _ => sameH.rfl, ha⟩
  | succ n ih =>
    intro f i M ae s hm hf hi R hS ha
    obtain ⟨f, rfl⟩ : ∃ g, f = g + 1 := ⟨f - 1, by omega⟩
    have z4 : zI M 4 4 = 0 := hS.1.2.2.2.2.1
    have z10 : zL M 4 10 = s.2.2.1 := hS.1.2.2.2.2.2.2.2.1
    have e2 : pth T L p side e o (n + 1) ae s = if s.2.2.1 ≤ 0 ∨ ae = true then s else pth T L p side e o n (yE T L p side e o s.1 s.2.1 s.2.2.1) (ptS T L p side e o s) := rfl
    by_cases c : s.2.2.1 ≤ 0 ∨ ae = true
    · rw [e2, if_pos c]
      have hend : loopO o (f + 1) per e i M = some ((), M) := by
        by_cases ho : o = 0
        · unfold loopO
          rw [if_pos ho]
          have e1 : g_X10_pour_61 (f + 1) per e i M = g_X10_pour_61B (g_X10_pour_61 f) per e i M := rfl
          rw [e1]
          unfold g_X10_pour_61B g_X10_pour_131
          rw [K_finish0 z4, z10]
          simp only [bindS]
          rw [if_neg (by omega)]
          rcases c with c | c
          · rw [if_pos c]
          · have z6 : zI M 4 6 = 1 := by rw [hS.2.2.2.2, c]; rfl
            rw [z6, if_neg (show ¬ (1 : Int) = 0 by omega), ite_self]
        · unfold loopO
          rw [if_neg ho]
          have e1 : g_X10_drain_28 (f + 1) per e i M = g_X10_drain_28B (g_X10_drain_28 f) per e i M := rfl
          rw [e1]
          unfold g_X10_drain_28B g_X10_drain_98
          rw [K_finish0 z4, z10]
          simp only [bindS]
          rw [if_neg (by omega)]
          rcases c with c | c
          · rw [if_pos c]
          · have z6 : zI M 4 6 = 1 := by rw [hS.2.2.2.2, c]; rfl
            rw [z6, if_neg (show ¬ (1 : Int) = 0 by omega), ite_self]
      exact ⟨M, ae, hend, hS, fun _ _ => sameH.rfl, ha⟩
    · rw [e2, if_neg c]
      have hae : ae = false := by
        cases ae
        · rfl
        · exact absurd (Or.inr rfl) c
      obtain ⟨M1, a1, a2, a3⟩ := K_step_paper hb R hT hL hS hpb ha c
      obtain ⟨q1, q2⟩ := ptS_next hT hL R.2.2.2.2.2.2 hpb ha c
      obtain ⟨M2, ae2, b1, b2, b3, b4⟩ := ih f (i + 1) M1 _ _ (by omega) (by omega) (by omega) (R.not4 hb a3) a2 q1
      refine ⟨M2, ae2, ?_, b2, fun x hx => (a3 x hx).trans (b3 x hx), b4⟩
      have z6 : zI M 4 6 = 0 := by rw [hS.2.2.2.2, hae]; rfl
      rw [loopO_step o f per e i (fun M' hM' => by
        rw [a1] at hM'
        cases hM'
        exact a2.1.2.2.2.2.1) z4, if_neg (by omega), z10, if_neg (fun q => c (Or.inl q)), z6, if_pos rfl, a1]
      simp only [bindS]
      rw [w32_id (by omega) (by omega), show (i : Int) + 1 = ((i + 1 : Nat) : Int) by omega]
      exact b1
theorem K_start0 (hb : bOK b) (R : Rep kk M b N T L th pe po) {p : Nat} (hp : p < 5) (hq : (p : Int) < po) {side : Int} (hs : side = 0 ∨ side = 1) (amount : Int) : ∃ M', g_X10_start b p side amount 0 M = some (1, M') ∧ TP M' b p side 0 false (w32 (N (22 + 23 * p)), w32 (N (22 + 23 * p + 1)), amount, 0, 0, 0, 0) ∧ (∀ x, x ≠ 4 → sameH M M' x) := by
  have hk := kdp hb hp
  have hne : b + 2 + 2 + 5 * p ≠ 4 := by rcases hb with rfl | rfl <;> omega
  have hb4 : b ≠ 4 := by rcases hb with rfl | rfl <;> omega
  generalize eMM : uL (uL (uL (uL (uI (uI (uI (uI (uI (uR (uR M 4 0 b) 4 1 (b + 2 + 2 + 5 * p)) 4 2 p) 4 3 side) 4 4 0) 4 6 0) 4 9 0) 4 10 amount) 4 11 0) 4 12 0) 4 13 0 = MM
  have fM : ∀ x, x ≠ 4 → sameH M MM x := fun x hx => by
    rw [← eMM]
    exact ((((((((((sameH_uR hx).trans (sameH_uR hx)).trans (sameH_uI hx)).trans (sameH_uI hx)).trans (sameH_uI hx)).trans (sameH_uI hx)).trans (sameH_uI hx)).trans (sameH_uL hx)).trans (sameH_uL hx)).trans (sameH_uL hx)).trans (sameH_uL hx)
  have r0 : zR MM 4 0 = b := by rw [← eMM]; rfl
  have r1 : zR MM 4 1 = b + 2 + 2 + 5 * p := by rw [← eMM]; rfl
  have i2 : zI MM 4 2 = p := by rw [← eMM]; rfl
  have i3 : zI MM 4 3 = side := by rw [← eMM]; rfl
  have i4 : zI MM 4 4 = 0 := by rw [← eMM]; rfl
  have i6 : zI MM 4 6 = 0 := by rw [← eMM]; rfl
  have i9 : zI MM 4 9 = 0 := by rw [← eMM]; rfl
  have l10 : zL MM 4 10 = amount := by rw [← eMM]; rfl
  have l11 : zL MM 4 11 = 0 := by rw [← eMM]; rfl
  have l12 : zL MM 4 12 = 0 := by rw [← eMM]; rfl
  have l13 : zL MM 4 13 = 0 := by rw [← eMM]; rfl
  have p5 : zI MM (b + 2 + 2 + 5 * p) 5 = w32 (N (22 + 23 * p)) := by rw [(fM _ hne 5).1]; exact K_root R hp hq
  have p6 : zI MM (b + 2 + 2 + 5 * p) 6 = w32 (N (22 + 23 * p + 1)) := by rw [(fM _ hne 6).1]; exact K_zone R hp hq
  refine ⟨uI (uI MM 4 5 (w32 (N (22 + 23 * p)))) 4 8 (w32 (N (22 + 23 * p + 1))), ?_, ?_, fun x hx => ((fM x hx).trans (sameH_uI hx)).trans (sameH_uI hx)⟩
  · have ep : g_X2_poolAt b p (uR M 4 0 b) = some (b + 2 + 2 + 5 * p, uR M 4 0 b) := K_poolAt_y hb hp (by rw [zI_uR, R.1.2.2.1]; exact hq)
    have e5 : zR (uI MM 4 5 (w32 (N (22 + 23 * p)))) 4 1 = b + 2 + 2 + 5 * p := r1
    have e6 : zI (uI MM 4 5 (w32 (N (22 + 23 * p)))) (b + 2 + 2 + 5 * p) 6 = w32 (N (22 + 23 * p + 1)) := by rw [zI_uI, if_neg (fun q => hne q.1)]; exact p6
    have e4 : zI (uI (uI MM 4 5 (w32 (N (22 + 23 * p)))) 4 8 (w32 (N (22 + 23 * p + 1)))) 4 4 = 0 := by rw [zI_uI, if_neg (by omega), zI_uI, if_neg (by omega)]; exact i4
    unfold g_X10_start g_X10_start_24 g_X10_start_40 g_X10_start_56 g_X10_start_120 g_X10_start_78
    rw [if_pos (kdb hb), ep]
    simp only [bindS]
    rw [if_pos (Or.inl trivial), eMM, r1, if_neg (by omega), i3, K_isSide]
    simp only [bindS, bI_0]
    rw [if_neg (fun q => q hs), r1, if_pos hk, p5, e5, if_pos hk, e6, e4, if_pos rfl]
  · refine ⟨⟨r0, r1, ?_, ?_, ?_, ?_, ?_, l10, l11⟩, l12, l13, ?_, ?_⟩
    · rw [zI_uI, if_neg (by omega), zI_uI, if_neg (by omega)]; exact i2
    · rw [zI_uI, if_neg (by omega), zI_uI, if_neg (by omega)]; exact i3
    · rw [zI_uI, if_neg (by omega), zI_uI, if_neg (by omega)]; exact i4
    · rw [zI_uI, if_neg (by omega)]; exact zI_at _ _ _ _
    · exact zI_at _ _ _ _
    · rw [zI_uI, if_neg (by omega), zI_uI, if_neg (by omega)]; exact i9
    · rw [zI_uI, if_neg (by omega), zI_uI, if_neg (by omega)]; exact i6
end PQ
