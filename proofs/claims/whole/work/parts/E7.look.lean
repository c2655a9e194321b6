/-! the class looks for the best row -/
def BS (M : MZ) (s : BT) : Prop := zL M 14 0 = s.1 ∧ zI M 14 1 = s.2.1 ∧ zI M 14 2 = (rl s.2.2 : Int) ∧ s.2.2 < 216 ∧ ∀ j, j < rl s.2.2 → zI M 15 j = (dg s.2.2 j : Int) - 1
def FrD (d : Nat) (M M' : MZ) : Prop := (∀ x, x ≠ 4 → ¬ (14 ≤ x ∧ x < 20) → sameH M M' x) ∧ (∀ j, j < d → zI M' 16 j = zI M 16 j) ∧ (∀ j, j ≤ d → zI M' 17 j = zI M 17 j ∧ zL M' 18 j = zL M 18 j) ∧ (∀ j, j < d → zI M' 19 j = zI M 19 j)
theorem FrD.trans {d : Nat} {M M' M'' : MZ} (a : FrD d M M') (b : FrD d M' M'') : FrD d M M'' := ⟨fun x h1 h2 => (a.1 x h1 h2).trans (b.1 x h1 h2), fun j hj => (b.2.1 j hj).trans (a.2.1 j hj), fun j hj => ⟨(b.2.2.1 j hj).1.trans (a.2.2.1 j hj).1, (b.2.2.1 j hj).2.trans (a.2.2.1 j hj).2⟩, fun j hj => (b.2.2.2 j hj).trans (a.2.2.2 j hj)⟩
def DS (M : MZ) (d c : Nat) (t a : Int) (met thr : Nat) : Prop := pc c d ∧ (∀ j, j < d → zI M 16 j = (dg c j : Int) - 1) ∧ zI M 17 d = t ∧ zL M 18 d = a ∧ (met < 32 ∧ thr < 32) ∧ (∀ x : Nat, x < 5 → (met / 2 ^ x % 2 = 1 ↔ ∃ j, j ≤ d ∧ zI M 17 j = x)) ∧ (∀ x : Nat, x < 5 → (thr / 2 ^ x % 2 = 1 ↔ ∃ j, j < d ∧ zI M 16 j = x)) ∧ (0 < a ∧ a ≤ 10000000000)
theorem DS.mv {M M' : MZ} {d c : Nat} {t a : Int} {met thr : Nat} (h : DS M d c t a met thr) (F : FrD d M M') : DS M' d c t a met thr := by
  obtain ⟨h1, h2, h3, h4, h5, h6, h7, h8⟩ := h
  refine ⟨h1, fun j hj => (F.2.1 j hj).trans (h2 j hj), (F.2.2.1 d (by omega)).1.trans h3, (F.2.2.1 d (by omega)).2.trans h4, h5, fun x hx => (h6 x hx).trans ⟨?_, ?_⟩, fun x hx => (h7 x hx).trans ⟨?_, ?_⟩, h8⟩
  · rintro ⟨j, a, b⟩; exact ⟨j, a, (F.2.2.1 j a).1.trans b⟩
  · rintro ⟨j, a, b⟩; exact ⟨j, a, (F.2.2.1 j a).1.symm.trans b⟩
  · rintro ⟨j, a, b⟩; exact ⟨j, a, (F.2.1 j a).trans b⟩
  · rintro ⟨j, a, b⟩; exact ⟨j, a, (F.2.1 j a).symm.trans b⟩
section LK
variable {M : MZ} {b : Nat} {kk : Bool} {N T : Nat → Int} {L : List (Nat → Int)} {th pe po : Int}
theorem K_oth_n {d n : Nat} (hd : d < 3) : ∀ (m i f : Nat), i + m = d → m < f → (∀ j, i ≤ j → j < d → zI M 16 j ≠ (n : Int)) → g_X1_otherThing_3 f b d n i M = g_X1_otherThing_38 b d n M := by
  intro m
  induction m with
  | zero =>
    intro i f hi hf h
    obtain ⟨f, rfl⟩ : ∃ g, f = g + 1 := ⟨f - 1, by omega⟩
    have e : g_X1_otherThing_3 (f + 1) b d n i M = g_X1_otherThing_3B (g_X1_otherThing_3 f) b d n i M := rfl
    rw [e]
    unfold g_X1_otherThing_3B
    rw [if_pos (by omega)]
  | succ m ih =>
    intro i f hi hf h
    obtain ⟨f, rfl⟩ : ∃ g, f = g + 1 := ⟨f - 1, by omega⟩
    have e : g_X1_otherThing_3 (f + 1) b d n i M = g_X1_otherThing_3B (g_X1_otherThing_3 f) b d n i M := rfl
    rw [e]
    unfold g_X1_otherThing_3B
    rw [if_neg (show ¬ (d : Int) ≤ i by omega), if_neg (show ¬ (3 : Int) ≤ i by omega), if_pos (show (0 : Int) ≤ i ∧ (i : Int) < ((3 : Nat) : Int) by omega), Int.toNat_natCast, if_neg (h i (by omega) (by omega)), w32_id (by omega) (by omega), show (i : Int) + 1 = ((i + 1 : Nat) : Int) by omega]
    exact ih (i + 1) f (by omega) (by omega) (fun j h1 h2 => h j (by omega) h2)
theorem K_oth_y {d n : Nat} (hd : d < 3) : ∀ (m i f : Nat), i + m = d → m < f → (∃ j, i ≤ j ∧ j < d ∧ zI M 16 j = (n : Int)) → g_X1_otherThing_3 f b d n i M = some (-1, M) := by
  intro m
  induction m with
  | zero =>
    intro i f hi hf h
    obtain ⟨j, h1, h2, _⟩ := h
    omega
  | succ m ih =>
    intro i f hi hf h
    obtain ⟨f, rfl⟩ : ∃ g, f = g + 1 := ⟨f - 1, by omega⟩
    have e : g_X1_otherThing_3 (f + 1) b d n i M = g_X1_otherThing_3B (g_X1_otherThing_3 f) b d n i M := rfl
    rw [e]
    unfold g_X1_otherThing_3B
    rw [if_neg (show ¬ (d : Int) ≤ i by omega), if_neg (show ¬ (3 : Int) ≤ i by omega), if_pos (show (0 : Int) ≤ i ∧ (i : Int) < ((3 : Nat) : Int) by omega), Int.toNat_natCast]
    by_cases c : zI M 16 i = (n : Int)
    · rw [if_pos c]
    · rw [if_neg c, w32_id (by omega) (by omega), show (i : Int) + 1 = ((i + 1 : Nat) : Int) by omega]
      refine ih (i + 1) f (by omega) (by omega) ?_
      obtain ⟨j, h1, h2, h3⟩ := h
      by_cases e : j = i
      · rw [e] at h3; exact absurd h3 c
      · exact ⟨j, by omega, h2, h3⟩
theorem K_oth_38 (hb : bOK b) (R : Rep kk M b N T L th pe po) {d n : Nat} (hd : d < 3) (hn : n < 5) (hq : (n : Int) < po) {t : Int} (ht : zI M 17 d = t) : g_X1_otherThing_38 b d n M = some (if 0 ≤ sdP T n t then otP T n (sdP T n t) else -1, M) := by
  have e0 : zI M (b + 2 + 2 + 5 * n) 0 = T (5 * n) := R.2.2.1 n hn hq 0 (by omega)
  have e1 := R.2.2.1 n hn hq 1 (by omega)
  unfold g_X1_otherThing_38
  rw [if_pos (kdb hb), K_poolAt_y hb hn (by rw [R.1.2.2.1]; exact hq)]
  simp only [bindS]
  rw [if_neg (show ¬ b + 2 + 2 + 5 * n = 0 by omega), if_neg (show ¬ (d : Int) < 0 by omega), if_pos (show (d : Int) < 3 by omega), if_pos (show (0 : Int) ≤ d ∧ (d : Int) < ((3 : Nat) : Int) by omega), if_pos (kdp hb hn), K_sideOf hb hn, Int.toNat_natCast, ht, e0, e1]
  simp only [bindS]
  rw [show (if t = T (5 * n) then (0 : Int) else if t = T (5 * n + 1) then 1 else -1) = sdP T n t by
    unfold sdP
    simp only [eq_comm]]
  unfold g_X1_otherThing_78 g_X1_otherThing_99 otP
  rcases sdP_r T n t with c | c | c
  · rw [c, if_neg (show ¬ (0 : Int) = -1 by omega), if_pos (kdp hb hn), show w32 (1 - 0) = 1 from rfl, K_thingOn hb hn]
    simp only [bindS]
    rw [if_neg (show ¬ (1 : Int) = 0 by omega), e1, if_pos (show (0 : Int) ≤ 0 by omega)]
    rfl
  · rw [c, if_neg (show ¬ (1 : Int) = -1 by omega), if_pos (kdp hb hn), show w32 (1 - 1) = 0 from rfl, K_thingOn hb hn]
    simp only [bindS]
    rw [if_pos (show (0 : Int) ≤ 1 by omega), if_neg (show ¬ (1 : Int) = 0 by omega)]
    show some (zI M (b + 2 + 2 + 5 * n) 0, M) = _
    rw [e0]
  · rw [c, if_pos rfl, if_neg (show ¬ (0 : Int) ≤ -1 by omega)]
theorem K_was_n {d : Nat} {o : Int} (hd : d < 3) : ∀ (m i f : Nat), i + m = d + 1 → m < f → (∀ j, i ≤ j → j ≤ d → zI M 17 j ≠ o) → g_X1_wasAt_2 f d o i M = some (0, M) := by
  intro m
  induction m with
  | zero =>
    intro i f hi hf h
    obtain ⟨f, rfl⟩ : ∃ g, f = g + 1 := ⟨f - 1, by omega⟩
    have e : g_X1_wasAt_2 (f + 1) d o i M = g_X1_wasAt_2B (g_X1_wasAt_2 f) d o i M := rfl
    rw [e]
    unfold g_X1_wasAt_2B g_X1_wasAt_34
    rw [if_pos (by omega)]
  | succ m ih =>
    intro i f hi hf h
    obtain ⟨f, rfl⟩ : ∃ g, f = g + 1 := ⟨f - 1, by omega⟩
    have e : g_X1_wasAt_2 (f + 1) d o i M = g_X1_wasAt_2B (g_X1_wasAt_2 f) d o i M := rfl
    rw [e]
    unfold g_X1_wasAt_2B
    rw [if_neg (show ¬ (d : Int) < i by omega), if_neg (show ¬ (3 : Int) ≤ i by omega), if_pos (show (0 : Int) ≤ i ∧ (i : Int) < ((3 : Nat) : Int) by omega), Int.toNat_natCast, if_neg (h i (by omega) (by omega)), w32_id (by omega) (by omega), show (i : Int) + 1 = ((i + 1 : Nat) : Int) by omega]
    exact ih (i + 1) f (by omega) (by omega) (fun j h1 h2 => h j (by omega) h2)
theorem K_was_y {d : Nat} {o : Int} (hd : d < 3) : ∀ (m i f : Nat), i + m = d + 1 → m < f → (∃ j, i ≤ j ∧ j ≤ d ∧ zI M 17 j = o) → g_X1_wasAt_2 f d o i M = some (1, M) := by
  intro m
  induction m with
  | zero =>
    intro i f hi hf h
    obtain ⟨j, h1, h2, _⟩ := h
    omega
  | succ m ih =>
    intro i f hi hf h
    obtain ⟨f, rfl⟩ : ∃ g, f = g + 1 := ⟨f - 1, by omega⟩
    have e : g_X1_wasAt_2 (f + 1) d o i M = g_X1_wasAt_2B (g_X1_wasAt_2 f) d o i M := rfl
    rw [e]
    unfold g_X1_wasAt_2B
    rw [if_neg (show ¬ (d : Int) < i by omega), if_neg (show ¬ (3 : Int) ≤ i by omega), if_pos (show (0 : Int) ≤ i ∧ (i : Int) < ((3 : Nat) : Int) by omega), Int.toNat_natCast]
    by_cases c : zI M 17 i = o
    · rw [if_pos c]
    · rw [if_neg c, w32_id (by omega) (by omega), show (i : Int) + 1 = ((i + 1 : Nat) : Int) by omega]
      refine ih (i + 1) f (by omega) (by omega) ?_
      obtain ⟨j, h1, h2, h3⟩ := h
      by_cases e : j = i
      · rw [e] at h3; exact absurd h3 c
      · exact ⟨j, by omega, h2, h3⟩
theorem K_trial (hb : bOK b) (R : Rep kk M b N T L th pe po) (W : WF N T L th pe po) {d n : Nat} (hd : d < 3) (hn : n < 5) (hq : (n : Int) < po) {t a : Int} (ht : zI M 17 d = t) (hA : zL M 18 d = a) (ha : 0 < a ∧ a ≤ 10000000000) (hs : 0 ≤ sdP T n t) : ∃ M', g_X1_trial b d n M = some (hpP N T L n (sdP T n t) a, M') ∧ (∀ x, x ≠ 4 → x ≠ 16 → sameH M M' x) ∧ (∀ j, j ≠ d → zI M' 16 j = zI M 16 j) ∧ zI M' 16 d = n := by
  have e0 : zI M (b + 2 + 2 + 5 * n) 0 = T (5 * n) := R.2.2.1 n hn hq 0 (by omega)
  have e1 := R.2.2.1 n hn hq 1 (by omega)
  have hbb : b = 78 ∨ b = 143 := hb
  have hs2 : sdP T n t = 0 ∨ sdP T n t = 1 := by have := sdP_r T n t; omega
  have R1 : Rep kk (uI M 16 d n) b N T L th pe po := R.same (fun h h1 h2 => sameH_uI (by omega))
  obtain ⟨M', ae, p1, p2, p3⟩ := K_pour0 hb R1 W (hp_b (a := a) hn hq hs2) ha (-1)
  refine ⟨M', ?_, fun x h1 h2 => (sameH_uI h2).trans (p3 x h1), fun j hj => ?_, ?_⟩
  · unfold g_X1_trial
    rw [if_pos (kdb hb), K_poolAt_y hb hn (by rw [R.1.2.2.1]; exact hq)]
    simp only [bindS]
    rw [if_neg (show ¬ b + 2 + 2 + 5 * n = 0 by omega), if_neg (show ¬ (d : Int) < 0 by omega), if_pos (show (d : Int) < 3 by omega), if_pos (show (0 : Int) ≤ d ∧ (d : Int) < ((3 : Nat) : Int) by omega), if_pos (show (0 : Int) ≤ d ∧ (d : Int) < ((3 : Nat) : Int) by omega), if_pos (kdp hb hn), K_sideOf hb hn, Int.toNat_natCast]
    simp only [bindS]
    rw [if_pos (show (0 : Int) ≤ d ∧ (d : Int) < ((3 : Nat) : Int) by omega)]
    rw [zI_uI, if_neg (show ¬ (17 = 16 ∧ d = d) by omega), zI_uI, if_neg (show ¬ (b + 2 + 2 + 5 * n = 16 ∧ 0 = d) by omega), zI_uI, if_neg (show ¬ (b + 2 + 2 + 5 * n = 16 ∧ 1 = d) by omega), ht, e0, e1]
    rw [show (if t = T (5 * n) then (0 : Int) else if t = T (5 * n + 1) then 1 else -1) = sdP T n t by
      unfold sdP
      simp only [eq_comm]]
    rw [K_lastTick]
    simp only [bindS]
    rw [zL_uI, hA]
    have p1' : g_X10_pour b (-1) n (sdP T n t) a (if sdP T n t = 0 then 0 else 40) 0 (uI M 16 d n) = some ((), M') := p1
    rw [p1']
    simp only [bindS]
    rw [p2.1.2.2.2.2.2.2.2.2]
    rfl
  · rw [(p3 16 (by omega) j).1, zI_uI, if_neg (fun q => hj q.2)]
  · rw [(p3 16 (by omega) d).1, zI_at]
theorem K_consider {V : Nat → Int} {s : BT} (hB : BS M s) {r d : Nat} {a v : Int} (hr : r < 216) (hr1 : 1 ≤ r) (hl : rlen r = d + 1) (hd : d < 3) (hrow : ∀ j, j < d + 1 → zI M 16 j = (dg r j : Int) - 1) (hV : V r = v) (hv : 0 < v ∧ v ≤ 9000000000) (ha : 0 ≤ a ∧ a ≤ 9999999) : ∃ M', g_X1_consider ((d + 1 : Nat) : Int) v a M = some ((), M') ∧ BS M' (stp a V s r) ∧ (∀ x, x ≠ 14 → x ≠ 15 → sameH M M' x) := by
  obtain ⟨b1, b2, b3, b4, b5⟩ := hB
  have up : ∃ M', g_X1_consider_56 ((d + 1 : Nat) : Int) a (v - a) M = some ((), M') ∧ BS M' (v - a, a, r) ∧ (∀ x, x ≠ 14 → x ≠ 15 → sameH M M' x) := by
    refine ⟨zcp (uI (uI (uL M 14 0 (v - a)) 14 1 a) 14 2 ((d + 1 : Nat) : Int)) 16 0 15 0 3, rfl, ⟨rfl, rfl, ?_, hr, fun j hj => ?_⟩, fun x h1 h2 j => ⟨?_, ?_, ?_⟩⟩
    · show ((d + 1 : Nat) : Int) = (rl r : Int)
      unfold rl
      rw [if_neg (by omega), hl]
    · have hj' : j < d + 1 := by
        have : rl r = d + 1 := by unfold rl; rw [if_neg (by omega), hl]
        have hj2 : j < rl r := hj
        omega
      rw [zI_zcp, if_pos rfl, if_pos (by omega)]
      show zI M 16 (0 + (j - 0)) = _
      rw [Nat.zero_add, Nat.sub_zero]
      exact hrow j hj'
    · rw [zI_zcp, if_neg h2, zI_uI, if_neg (fun q => h1 q.1), zI_uI, if_neg (fun q => h1 q.1)]; rfl
    · rw [zL_zcp, zL_uI, zL_uI, zL_uL, if_neg (fun q => h1 q.1)]
    · rfl
  have no : ∃ M', g_X1_consider_91 M = some ((), M') ∧ BS M' s ∧ (∀ x, x ≠ 14 → x ≠ 15 → sameH M M' x) := ⟨M, rfl, ⟨b1, b2, b3, b4, b5⟩, fun _ _ _ => sameH.rfl⟩
  unfold g_X1_consider g_X1_consider_7 stp
  rw [w64_id (by omega) (by omega), b1, b2, b3, hV, hl]
  unfold g_X1_consider_38 g_X1_consider_39
  rw [b1]
  by_cases c1 : s.1 < v - a
  · rw [if_neg (show ¬ v - a = s.1 by omega), if_pos c1, if_pos (show 0 < v ∧ (s.1 < v - a ∨ v - a = s.1 ∧ a = s.2.1 ∧ d + 1 < rl s.2.2) from ⟨hv.1, Or.inl c1⟩)]
    exact up
  · by_cases c2 : v - a = s.1
    · rw [if_pos c2]
      by_cases c3 : a = s.2.1
      · rw [if_pos c3]
        by_cases c4 : d + 1 < rl s.2.2
        · rw [if_neg (show ¬ (rl s.2.2 : Int) ≤ ((d + 1 : Nat) : Int) by omega), if_neg c1, if_neg (show ¬ (1 : Int) = 0 by omega), if_pos ⟨hv.1, Or.inr ⟨c2, c3, c4⟩⟩]
          exact up
        · rw [if_pos (show (rl s.2.2 : Int) ≤ ((d + 1 : Nat) : Int) by omega), if_neg c1, if_pos rfl, if_neg (fun q => by
            rcases q.2 with q | q
            · exact c1 q
            · exact c4 q.2.2)]
          exact no
      · rw [if_neg c3, if_neg c1, if_pos rfl, if_neg (fun q => by
            rcases q.2 with q | q
            · exact c1 q
            · exact c3 q.2.1)]
        exact no
    · rw [if_neg c2, if_neg c1, if_pos rfl, if_neg (fun q => by
            rcases q.2 with q | q
            · exact c1 q
            · exact c2 q.1)]
      exact no
end LK
