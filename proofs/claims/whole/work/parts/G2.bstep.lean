/-! the text of a bundle: a step -/
def STQ (Mc Mr : MZ) (i : Nat) : Prop := (zI Mc (38 + i) 0 = zI Mr 28 i ∧ (0 ≤ zI Mr 28 i ∧ zI Mr 28 i ≤ 6)) ∧ (zI Mc (38 + i) 1 = zI Mr 29 i ∧ (0 ≤ zI Mr 29 i ∧ zI Mr 29 i ≤ 400)) ∧ (zI Mr 28 i = 0 ∨ zI Mr 28 i = 1 ∨ zI Mr 28 i = 5 → PSp Mc Mr i ∧ MUp Mc Mr i) ∧ (zI Mr 28 i = 2 → RGp Mc Mr i ∧ AMp Mc Mr i) ∧ (zI Mr 28 i = 3 → RGp Mc Mr i) ∧ (zI Mr 28 i = 4 → LEp Mc Mr i) ∧ (zI Mr 28 i = 6 → TMp Mc Mr i)
theorem STQ.mv {Mc Mr Mc' Mr' : MZ} {i : Nat} (h : STQ Mc Mr i) (hc : ∀ k, k < 9 → zI Mc' (38 + i) k = zI Mc (38 + i) k) (h28 : zI Mr' 28 i = zI Mr 28 i) (h29 : zI Mr' 29 i = zI Mr 29 i) (h30 : ∀ k, 4 * i ≤ k → k < 4 * i + 4 → zI Mr' 30 k = zI Mr 30 k) (h31 : zI Mr' 31 i = zI Mr 31 i) : STQ Mc' Mr' i := by
  unfold STQ PSp MUp RGp AMp LEp TMp at *
  rw [hc 0 (by omega), hc 1 (by omega), hc 2 (by omega), hc 3 (by omega), hc 4 (by omega), hc 5 (by omega), hc 6 (by omega), hc 7 (by omega), hc 8 (by omega), h28, h29, h31, h30 (4 * i) (by omega) (by omega), h30 (4 * i + 1) (by omega) (by omega), h30 (4 * i + 2) (by omega) (by omega), h30 (4 * i + 3) (by omega) (by omega)]
  exact h
section BS2
variable {n : Nat} {B : Nat → Int}
theorem stp_pos : ∀ k, k < 7 → 0 < (steps0.getD k 0).toInt := by decide +kernel
theorem R_kind_loop {M : MZ} (K : KON M) {w : Int} : ∀ (d k f : Nat), k + d = 7 → d < f → (∀ j, j < k → (steps0.getD j 0).toInt ≠ w) → ∃ r : Int, g_X12_kindBy_2 f w 33 k M = some (r, M) ∧ ((r = -1 ∧ ∀ j, j < 7 → (steps0.getD j 0).toInt ≠ w) ∨ ∃ j : Nat, j < 7 ∧ r = j ∧ (steps0.getD j 0).toInt = w) := by
  have kd33 : kd 33 = (14, 7) := by decide +kernel
  intro d
  induction d with
  | zero =>
    intro k f hk hf h
    obtain ⟨f, rfl⟩ : ∃ g, f = g + 1 := ⟨f - 1, by omega⟩
    have e : g_X12_kindBy_2 (f + 1) w 33 k M = g_X12_kindBy_2B (g_X12_kindBy_2 f) w 33 k M := rfl
    rw [e]
    unfold g_X12_kindBy_2B
    rw [if_pos (by omega)]
    exact ⟨-1, rfl, Or.inl ⟨rfl, fun j hj => h j (by omega)⟩⟩
  | succ d ih =>
    intro k f hk hf h
    obtain ⟨f, rfl⟩ : ∃ g, f = g + 1 := ⟨f - 1, by omega⟩
    have e : g_X12_kindBy_2 (f + 1) w 33 k M = g_X12_kindBy_2B (g_X12_kindBy_2 f) w 33 k M := rfl
    have hp := stp_pos k (by omega)
    rw [e]
    unfold g_X12_kindBy_2B g_X12_kindBy_24
    rw [if_neg (by omega), if_pos kd33, if_pos (show (0 : Int) ≤ (k : Int) ∧ (k : Int) < ((7 : Nat) : Int) by omega), Int.toNat_natCast, K.2.2 k (by omega), w32_id (x := (k : Int) + 1) (by omega) (by omega), show (k : Int) + 1 = ((k + 1 : Nat) : Int) by omega]
    by_cases c : (steps0.getD k 0).toInt = w
    · rw [if_pos c, if_neg (by omega)]
      exact ⟨k, rfl, Or.inr ⟨k, by omega, rfl, c⟩⟩
    · rw [if_neg c]
      refine ih (k + 1) f (by omega) (by omega) (fun j hj => ?_)
      by_cases ej : j = k
      · rw [ej]; exact c
      · exact h j (by omega)
theorem kind_sim {w : Int} {Mc Mr : MZ} (K : KON Mr) (hW : ∀ hh, hh < 12 → ∃ fl, g_X9_wordIs (301 + hh) Mc = some (fl, Mc) ∧ (fl = 1 ∧ w = (words0.getD (12 + hh) 0).toInt ∨ fl = 0 ∧ w ≠ (words0.getD (12 + hh) 0).toInt)) : ∃ k : Int, g_X6_kindOfWord Mc = some (k, Mc) ∧ g_X12_kindBy w 33 Mr = some (k, Mr) ∧ (-1 ≤ k ∧ k ≤ 6) := by
  obtain ⟨d15, d16, d17, d18, d19, d20, d21, _, _⟩ := wdB
  obtain ⟨q0, q1, q2, q3, q4, q5, q6⟩ := wdS
  obtain ⟨r, r1, r2⟩ := R_kind_loop K (w := w) 7 0 100000 (by omega) (by omega) (fun j hj => by omega)
  have r1' : g_X12_kindBy w 33 Mr = some (r, Mr) := r1
  have hr : (r = -1 ∧ w ≠ 257 ∧ w ≠ 11522 ∧ w ≠ 841 ∧ w ≠ 92275 ∧ w ≠ 6476969 ∧ w ≠ 240223 ∧ w ≠ 10815598) ∨ (r = 0 ∧ w = 257) ∨ (r = 1 ∧ w = 11522) ∨ (r = 2 ∧ w = 841) ∨ (r = 3 ∧ w = 92275) ∨ (r = 4 ∧ w = 6476969) ∨ (r = 5 ∧ w = 240223) ∨ (r = 6 ∧ w = 10815598) := by
    rcases r2 with ⟨e, h⟩ | ⟨j, j7, e, h⟩
    · have h0 := h 0 (by omega); have h1 := h 1 (by omega); have h2 := h 2 (by omega); have h3 := h 3 (by omega); have h4 := h 4 (by omega); have h5 := h 5 (by omega); have h6 := h 6 (by omega)
      rw [q0] at h0; rw [q1] at h1; rw [q2] at h2; rw [q3] at h3; rw [q4] at h4; rw [q5] at h5; rw [q6] at h6
      exact Or.inl (by omega)
    · have hj : j = 0 ∨ j = 1 ∨ j = 2 ∨ j = 3 ∨ j = 4 ∨ j = 5 ∨ j = 6 := by omega
      rcases hj with rfl | rfl | rfl | rfl | rfl | rfl | rfl
      · rw [q0] at h; omega
      · rw [q1] at h; omega
      · rw [q2] at h; omega
      · rw [q3] at h; omega
      · rw [q4] at h; omega
      · rw [q5] at h; omega
      · rw [q6] at h; omega
  obtain ⟨a0, x0, y0⟩ := hW 3 (by omega)
  obtain ⟨a1, x1, y1⟩ := hW 4 (by omega)
  obtain ⟨a2, x2, y2⟩ := hW 5 (by omega)
  obtain ⟨a3, x3, y3⟩ := hW 6 (by omega)
  obtain ⟨a4, x4, y4⟩ := hW 7 (by omega)
  obtain ⟨a5, x5, y5⟩ := hW 8 (by omega)
  obtain ⟨a6, x6, y6⟩ := hW 9 (by omega)
  have x0' : g_X9_wordIs 304 Mc = some (a0, Mc) := x0
  have x1' : g_X9_wordIs 305 Mc = some (a1, Mc) := x1
  have x2' : g_X9_wordIs 306 Mc = some (a2, Mc) := x2
  have x3' : g_X9_wordIs 307 Mc = some (a3, Mc) := x3
  have x4' : g_X9_wordIs 308 Mc = some (a4, Mc) := x4
  have x5' : g_X9_wordIs 309 Mc = some (a5, Mc) := x5
  have x6' : g_X9_wordIs 310 Mc = some (a6, Mc) := x6
  have z0 : a0 = 1 ∧ w = 257 ∨ a0 = 0 ∧ w ≠ 257 := by rw [← d15]; exact y0
  have z1 : a1 = 1 ∧ w = 11522 ∨ a1 = 0 ∧ w ≠ 11522 := by rw [← d16]; exact y1
  have z2 : a2 = 1 ∧ w = 841 ∨ a2 = 0 ∧ w ≠ 841 := by rw [← d17]; exact y2
  have z3 : a3 = 1 ∧ w = 92275 ∨ a3 = 0 ∧ w ≠ 92275 := by rw [← d18]; exact y3
  have z4 : a4 = 1 ∧ w = 6476969 ∨ a4 = 0 ∧ w ≠ 6476969 := by rw [← d19]; exact y4
  have z5 : a5 = 1 ∧ w = 240223 ∨ a5 = 0 ∧ w ≠ 240223 := by rw [← d20]; exact y5
  have z6 : a6 = 1 ∧ w = 10815598 ∨ a6 = 0 ∧ w ≠ 10815598 := by rw [← d21]; exact y6
  refine ⟨r, ?_, r1', by omega⟩
  unfold g_X6_kindOfWord g_X6_kindOfWord_102
  rw [x0']
  simp only [bindS]
  by_cases c0 : a0 = 0
  case neg => rw [if_neg c0, show r = 0 by omega]
  rw [if_pos c0, x1']
  simp only [bindS]
  by_cases c1 : a1 = 0
  case neg => rw [if_neg c1, show r = 1 by omega]
  rw [if_pos c1, x2']
  simp only [bindS]
  by_cases c2 : a2 = 0
  case neg => rw [if_neg c2, show r = 2 by omega]
  rw [if_pos c2, x3']
  simp only [bindS]
  by_cases c3 : a3 = 0
  case neg => rw [if_neg c3, show r = 3 by omega]
  rw [if_pos c3, x4']
  simp only [bindS]
  by_cases c4 : a4 = 0
  case neg => rw [if_neg c4, show r = 4 by omega]
  rw [if_pos c4, x5']
  simp only [bindS]
  by_cases c5 : a5 = 0
  case neg => rw [if_neg c5, show r = 5 by omega]
  rw [if_pos c5, x6']
  simp only [bindS]
  by_cases c6 : a6 = 0
  case neg => rw [if_neg c6, show r = 6 by omega]
  rw [if_pos c6, show r = -1 by omega]
/-- what a step's text leaves alone -/
def CZ (sz : Nat) (M M' : MZ) : Prop := (∀ x, x ≠ 2 → x ≠ 6 → x ≠ 38 + sz → sameH M M' x) ∧ zI M' 2 0 = zI M 2 0 ∧ (∀ k, k ≠ 0 → zI M' 6 k = zI M 6 k)
def RZ (sz : Nat) (M M' : MZ) : Prop := (∀ x, x ≠ 20 → ¬ (28 ≤ x ∧ x ≤ 32) → sameH M M' x) ∧ (∀ k, k ≠ 9 → k ≠ 10 → k ≠ 11 → k ≠ 34 → zI M' 20 k = zI M 20 k) ∧ (∀ k, zL M' 20 k = zL M 20 k) ∧ (∀ k, k ≠ sz → zI M' 28 k = zI M 28 k ∧ zI M' 29 k = zI M 29 k ∧ zI M' 31 k = zI M 31 k ∧ zI M' 32 k = zI M 32 k) ∧ (∀ k, ¬ (4 * sz ≤ k ∧ k < 4 * sz + 4) → zI M' 30 k = zI M 30 k)
theorem CZ.trans {sz : Nat} {M M' M'' : MZ} (a : CZ sz M M') (b : CZ sz M' M'') : CZ sz M M'' := ⟨fun x h1 h2 h3 => (a.1 x h1 h2 h3).trans (b.1 x h1 h2 h3), b.2.1.trans a.2.1, fun k hk => (b.2.2 k hk).trans (a.2.2 k hk)⟩
theorem RZ.trans {sz : Nat} {M M' M'' : MZ} (a : RZ sz M M') (b : RZ sz M' M'') : RZ sz M M'' := ⟨fun x h1 h2 => (a.1 x h1 h2).trans (b.1 x h1 h2), fun k h1 h2 h3 h4 => (b.2.1 k h1 h2 h3 h4).trans (a.2.1 k h1 h2 h3 h4), fun k => (b.2.2.1 k).trans (a.2.2.1 k), fun k hk => ⟨(b.2.2.2.1 k hk).1.trans (a.2.2.2.1 k hk).1, (b.2.2.2.1 k hk).2.1.trans (a.2.2.2.1 k hk).2.1, (b.2.2.2.1 k hk).2.2.1.trans (a.2.2.2.1 k hk).2.2.1, (b.2.2.2.1 k hk).2.2.2.trans (a.2.2.2.1 k hk).2.2.2⟩, fun k hk => (b.2.2.2.2 k hk).trans (a.2.2.2.2 k hk)⟩
theorem CH.cz {sz : Nat} {M M' : MZ} (a : CH (38 + sz) M M') : CZ sz M M' := ⟨fun x h1 _ h3 => a.1 x h1 h3, a.2.1, fun k _ => (a.1 6 (by omega) (by omega) k).1⟩
theorem CF.cz {M M' : MZ} (a : CF M M') (sz : Nat) : CZ sz M M' := ⟨fun x h1 _ _ => a.1 x h1, a.2, fun k _ => (a.1 6 (by omega) k).1⟩
theorem RH.rz {sz : Nat} {M M' : MZ} (a : RH sz M M') : RZ sz M M' := ⟨fun x h1 h2 => a.1 x h1 (by omega) (by omega), fun k h1 h2 h3 _ => a.2.1 k h1 h2 h3, a.2.2.1, fun k hk => ⟨(a.1 28 (by omega) (by omega) (by omega) k).1, (a.1 29 (by omega) (by omega) (by omega) k).1, a.2.2.2.2 k hk, (a.1 32 (by omega) (by omega) (by omega) k).1⟩, a.2.2.2.1⟩
theorem RF.rz {M M' : MZ} (a : RF M M') (sz : Nat) : RZ sz M M' := (a.rh sz).rz
theorem KON.rz {sz : Nat} {M M' : MZ} (K : KON M) (f : RZ sz M M') : KON M' := ⟨fun j hj => by rw [(f.1 21 (by omega) (by omega) j).2.1]; exact K.1 j hj, fun j h1 h2 => by rw [f.2.2.1]; exact K.2.1 j h1 h2, fun j hj => by rw [(f.1 33 (by omega) (by omega) j).2.1]; exact K.2.2 j hj⟩
/-- how a step's text ends: read (with what it holds of), or at fault -/
def Rd (n : Nat) (B : Nat → Int) (sz : Nat) (Mc Mr : MZ) (A C : Option (Int × MZ)) : Prop := (∃ Mc' Mr', A = some (0, Mc') ∧ C = some (0, Mr') ∧ CZ sz Mc Mc' ∧ RZ sz Mr Mr' ∧ zI Mr' 20 10 = zI Mc' 2 1) ∨ (∃ (Mc' Mr' : MZ) (j : Nat), A = some (1, Mc') ∧ CZ sz Mc Mc' ∧ RZ sz Mr Mr' ∧ SR n B j Mc' Mr' ∧ STQ Mc' Mr' sz ∧ zI Mc' 6 0 = ((sz + 1 : Nat) : Int) ∧ zI Mr' 20 34 = ((sz + 1 : Nat) : Int) ∧ zI Mc' (38 + sz) 9 = ((sz + 1 : Nat) : Int) ∧ ((zI Mr' 28 sz ≤ 4 ∧ C = some (1, Mr') ∧ zI Mr' 32 sz = ((sz + 1 : Nat) : Int)) ∨ (5 ≤ zI Mr' 28 sz ∧ C = ((g_X12_opens sz Mr').bind fun q => if q.1 = 0 then g_X12_readsStep_292 sz 0 q.2 else g_X12_readsStep_292 sz 1 q.2))))
/-- in, out, lend -/
theorem sim_pm (b : BO n B) {j i : Nat} (hi : i < 40) {Mc Mr : MZ} (K : KON Mr) (s : SR n B j Mc Mr) : ∃ (fl : Int) (Mc' Mr' : MZ), g_X6_readStep_186 (38 + i) Mc = some (fl, Mc') ∧ (∀ u v : MZ → Option (Int × MZ), ((g_X12_readsNumbers i 2 4 1 0 Mr).bind fun q => if q.1 = 0 then u q.2 else ((g_X12_readsMuch i q.2).bind fun q' => if q'.1 = 0 then u q'.2 else v q'.2)) = if fl = 0 then u Mr' else v Mr') ∧ Pc n B (38 + i) i fl Mc Mr Mc' Mr' (PSp Mc' Mr' i ∧ MUp Mc' Mr' i) := by
  obtain ⟨f1, Mc1, Mr1, a1, a2, a3, a4, a5⟩ := sim_ps b hi s
  unfold g_X6_readStep_186 g_X6_readStep_206 g_X6_readStep_207
  rw [a1]
  simp only [bindS]
  rcases a5 with ⟨e1, ⟨j1, s1⟩, P1⟩ | ⟨e1, x1⟩
  case inr =>
    subst e1
    rw [if_pos rfl, if_pos (Or.inl trivial)]
    refine ⟨0, Mc1, Mr1, rfl, fun u v => ?_, a3, a4, Or.inr ⟨rfl, x1⟩⟩
    rw [a2]
    rfl
  case inl =>
    subst e1
    rw [if_neg (show ¬ (1 : Int) = 0 by omega)]
    obtain ⟨f2, Mc2, Mr2, b1, b2, ⟨b3, b4, b5⟩, b6, b7⟩ := sim_much b hi (K.rh a4) s1
    rw [b1]
    simp only [bindS]
    rcases b5 with ⟨e2, s2, P2⟩ | ⟨e2, x2⟩
    case inr =>
      subst e2
      rw [if_pos rfl, if_pos (Or.inl trivial)]
      refine ⟨0, Mc2, Mr2, rfl, fun u v => ?_, a3.trans b3, a4.trans b4, Or.inr ⟨rfl, x2⟩⟩
      rw [a2]
      simp only [bindS]
      rw [if_neg (show ¬ (1 : Int) = 0 by omega), b2]
      rfl
    case inl =>
      subst e2
      rw [if_neg (show ¬ (1 : Int) = 0 by omega), if_pos (Or.inr trivial)]
      refine ⟨1, Mc2, Mr2, rfl, fun u v => ?_, a3.trans b3, a4.trans b4, Or.inl ⟨rfl, s2, ?_, P2⟩⟩
      · rw [a2]
        simp only [bindS]
        rw [if_neg (show ¬ (1 : Int) = 0 by omega), b2]
        rfl
      · unfold PSp
        rw [b6 2 (by omega) (by omega), b6 3 (by omega) (by omega), b7 _ (by omega), b7 _ (by omega)]
        exact P1
/-- add -/
theorem sim_ad (b : BO n B) {j i : Nat} (hi : i < 40) {Mc Mr : MZ} (s : SR n B j Mc Mr) : ∃ (fl : Int) (Mc' Mr' : MZ), ((g_X6_readRange (38 + i) Mc).bind fun q142 => (if q142.1 = 0 then (g_X6_readStep_163 q142.2) else ((g_X6_readAmount (38 + i) 1 99999 q142.2).bind fun q153 => (if q153.1 = 0 then (g_X6_readStep_163 q153.2) else (g_X6_readStep_164 1 q153.2))))) = some (fl, Mc') ∧ ((g_X12_readsNumbers i 3 4 40 40 Mr).bind fun q154 => (if q154.1 = 0 then (g_X12_readsStep_175 i q154.2) else ((g_X12_reads 1 99999 q154.2).bind fun q165 => (if q165.1 = 0 then (g_X12_readsStep_175 i q165.2) else (g_X12_readsStep_176 i 1 q165.2))))) = g_X12_readsStep_292 i fl Mr' ∧ Pc n B (38 + i) i fl Mc Mr Mc' Mr' (RGp Mc' Mr' i ∧ AMp Mc' Mr' i) := by
  have hb : (0 : Int) ≤ ((4 * i + 3 : Nat) : Int) ∧ ((4 * i + 3 : Nat) : Int) < ((160 : Nat) : Int) := by omega
  have e176 : ∀ (f : Int) (M : MZ), g_X12_readsStep_176 i f M = g_X12_readsStep_292 i f (uI M 30 (4 * i + 3) (zI M 20 11)) := by
    intro f M
    unfold g_X12_readsStep_176
    rw [w32_id (x := 4 * (i : Int)) (by omega) (by omega), w32_id (x := 4 * (i : Int) + 3) (by omega) (by omega), show 4 * (i : Int) + 3 = ((4 * i + 3 : Nat) : Int) by omega, if_pos hb, Int.toNat_natCast]
  have e175 : ∀ M : MZ, g_X12_readsStep_175 i M = g_X12_readsStep_292 i 0 (uI M 30 (4 * i + 3) (zI M 20 11)) := fun M => e176 0 M
  obtain ⟨f1, Mc1, Mr1, a1, a2, a3, a4, a5⟩ := sim_rg b hi s
  unfold g_X6_readStep_163 g_X6_readStep_164
  rw [a1, a2]
  simp only [bindS]
  rcases a5 with ⟨e1, ⟨j1, s1⟩, P1⟩ | ⟨e1, x1⟩
  case inr =>
    subst e1
    rw [if_pos rfl, if_pos rfl, if_pos (Or.inl trivial), e175]
    exact ⟨0, Mc1, _, rfl, rfl, a3, a4.trans (RH_30 (by omega)), Or.inr ⟨rfl, by rw [zI_uI, if_neg (by omega)]; exact x1⟩⟩
  case inl =>
    subst e1
    rw [if_neg (show ¬ (1 : Int) = 0 by omega), if_neg (show ¬ (1 : Int) = 0 by omega)]
    obtain ⟨f2, Mc2, Mr2, b1, b2, ⟨b3, b4, b5⟩, b6, b7⟩ := sim_am b hi s1
    rw [b1, b2]
    simp only [bindS]
    rw [e175, e176]
    rcases b5 with ⟨e2, s2, P2⟩ | ⟨e2, x2⟩
    case inr =>
      subst e2
      rw [if_pos rfl, if_pos rfl, if_pos (Or.inl trivial)]
      exact ⟨0, Mc2, _, rfl, rfl, a3.trans b3, a4.trans b4, Or.inr ⟨rfl, x2⟩⟩
    case inl =>
      subst e2
      rw [if_neg (show ¬ (1 : Int) = 0 by omega), if_neg (show ¬ (1 : Int) = 0 by omega), if_pos (Or.inr trivial)]
      refine ⟨1, Mc2, _, rfl, rfl, a3.trans b3, a4.trans b4, Or.inl ⟨rfl, s2, ?_, P2⟩⟩
      unfold RGp
      rw [b6 2 (by omega), b6 4 (by omega), b6 5 (by omega), b7 _ (by omega), b7 _ (by omega), b7 _ (by omega)]
      exact P1
theorem sim_rstep (b : BO n B) {j sz : Nat} (h40 : sz ≤ 40) {Mc Mr : MZ} (K : KON Mr) (hS : SR n B j Mc Mr) (c6 : zI Mc 6 0 = sz) (r34 : zI Mr 20 34 = sz) : Rd n B sz Mc Mr (g_X6_readStep Mc) (g_X12_readsStep Mr) ∧ (sz = 40 → ∃ Mc', g_X6_readStep Mc = some (0, Mc') ∧ CF Mc Mc') := by
  obtain ⟨s, m, w, Mc1, Mr1, a1, a2, a3, a4, a5, a6, a7, a8, a9, a10, a11, a12⟩ := sim_word b hS
  have T1 := hS.1.mv a3
  have R1 := hS.2.1.mv a4
  have K1 := K.rf a4
  have hn := b.1
  have c61 : zI Mc1 6 0 = sz := by rw [(a3.1 6 (by omega) 0).1]; exact c6
  have r341 : zI Mr1 20 34 = sz := by rw [a4.2.1 34 (by omega) (by omega) (by omega)]; exact r34
  have rfb : ∀ k : Int, ((g_X12_fails k s Mr1).bind fun q => if q.1 = 0 ∨ q.1 = 1 then some (q.1, q.2) else none) = some (0, uI Mr1 20 10 (fz k s)) := fun k => R_failb k s Mr1
  have bad : ∀ k : Int, (∃ Mc' Mr', some ((0 : Int), uI Mc1 2 1 (fz k s)) = some (0, Mc') ∧ some ((0 : Int), uI Mr1 20 10 (fz k s)) = some (0, Mr') ∧ CZ sz Mc Mc' ∧ RZ sz Mr Mr' ∧ zI Mr' 20 10 = zI Mc' 2 1) := fun k => ⟨_, _, rfl, rfl, (a3.trans (CF_u (by omega))).cz sz, (a4.trans (RF_u (by omega))).rz sz, by rw [zI_at, zI_at]⟩
  unfold g_X6_readStep g_X12_readsStep
  rw [a1, a2]
  simp only [bindS]
  by_cases c0 : m = 0
  · obtain ⟨z1, z2⟩ := a10 c0
    rw [if_neg (show ¬ 0 < m by omega), if_pos rfl]
    obtain ⟨r, r1, r2⟩ := R_kind_loop K1 (w := w) 7 0 100000 (by omega) (by omega) (fun j hj => by omega)
    have r1' : g_X12_kindBy w 33 Mr1 = some (r, Mr1) := r1
    obtain ⟨q0, q1, q2, q3, q4, q5, q6⟩ := wdS
    have hr : r = -1 := by
      rcases r2 with ⟨e, _⟩ | ⟨j, j7, e, h⟩
      · exact e
      · exfalso
        have hj : j = 0 ∨ j = 1 ∨ j = 2 ∨ j = 3 ∨ j = 4 ∨ j = 5 ∨ j = 6 := by omega
        rcases hj with rfl | rfl | rfl | rfl | rfl | rfl | rfl
        · rw [q0] at h; omega
        · rw [q1] at h; omega
        · rw [q2] at h; omega
        · rw [q3] at h; omega
        · rw [q4] at h; omega
        · rw [q5] at h; omega
        · rw [q6] at h; omega
    rw [r1']
    simp only [bindS]
    unfold g_X12_readsStep_17
    rw [hr, if_neg (by omega), a5, rfb]
    exact ⟨Or.inl ⟨Mc1, _, rfl, rfl, a3.cz sz, (a4.trans (RF_u (by omega))).rz sz, by rw [zI_at, z1]⟩, fun _ => ⟨_, rfl, a3⟩⟩
  rw [if_pos (show 0 < m by omega), if_neg (show ¬ (1 : Int) = 0 by omega)]
  obtain ⟨k, k1, k2, k3⟩ := kind_sim K1 (fun hh h12 => a11 Mc1 T1 a7 a8 hh h12)
  rw [k1, k2]
  simp only [bindS]
  unfold g_X12_readsStep_17
  rw [a5]
  by_cases ck : k = -1
  · subst ck
    rw [if_pos (show (-1 : Int) = -1 from rfl), if_neg (show ¬ (0 : Int) ≤ -1 by omega), rfb, K_blameW a7]
    exact ⟨Or.inl (bad 0), fun _ => ⟨_, rfl, a3.trans (CF_u (by omega))⟩⟩
  rw [if_neg ck, if_pos (show (0 : Int) ≤ k by omega), c61, r341, if_neg (show ¬ (sz : Int) < 0 by omega)]
  by_cases cs : sz = 40
  · have e50 : g_X6_readStep_50 Mc1 = some (0, uI Mc1 2 1 (fz 2 s)) := K_blameW a7
    rw [if_neg (show ¬ (sz : Int) < 40 by omega), if_pos (show (sz : Int) = 40 by omega), rfb, e50]
    exact ⟨Or.inl (bad 2), fun _ => ⟨_, rfl, a3.trans (CF_u (by omega))⟩⟩
  have h39 : sz < 40 := by omega
  refine ⟨?_, fun q => absurd q cs⟩
  have hb40 : (0 : Int) ≤ (sz : Int) ∧ (sz : Int) < ((40 : Nat) : Int) := by omega
  have hkd := kdt sz h39
  rw [if_pos (show (sz : Int) < 40 by omega), if_pos hb40, if_neg (show ¬ (sz : Int) = 40 by omega), Int.toNat_natCast]
  unfold g_X6_readStep_69 g_X12_readsStep_49 g_X12_readsStep_73
  rw [if_pos hkd, if_pos hb40, if_pos hb40, Int.toNat_natCast, c61, r341, w32_id (x := (sz : Int) + 1) (by omega) (by omega), show (sz : Int) + 1 = ((sz + 1 : Nat) : Int) by omega]
  have e23 : zI (uI (uI Mc1 6 0 ((sz + 1 : Nat) : Int)) (38 + sz) 0 k) 2 3 = (s : Int) := by rw [zI_uI, if_neg (by omega), zI_uI, if_neg (by omega)]; exact a7
  have e23' : zI (uI (uI Mc1 6 0 ((sz + 1 : Nat) : Int)) (7 + 31 + sz) 0 k) 2 3 = (s : Int) := e23
  rw [e23']
  generalize eMc2 : uI (uI (uI Mc1 6 0 ((sz + 1 : Nat) : Int)) (7 + 31 + sz) 0 k) (7 + 31 + sz) 1 (s : Int) = Mc2
  have m60 : zI Mc2 6 0 = ((sz + 1 : Nat) : Int) := by rw [← eMc2, zI_uI, if_neg (by omega), zI_uI, if_neg (by omega), zI_at]
  unfold g_X6_readStep_95
  rw [if_pos hkd, m60]
  generalize eMc3 : uI Mc2 (7 + 31 + sz) 9 ((sz + 1 : Nat) : Int) = Mc3
  have q60 : zI Mc3 6 0 = ((sz + 1 : Nat) : Int) := by rw [← eMc3, zI_uI, if_neg (by omega)]; exact m60
  have qh0 : zI Mc3 (38 + sz) 0 = k := by rw [← eMc3, zI_uI, if_neg (by omega), ← eMc2, zI_uI, if_neg (by omega)]; exact zI_at _ _ _ _
  have qh1 : zI Mc3 (38 + sz) 1 = (s : Int) := by rw [← eMc3, zI_uI, if_neg (by omega), ← eMc2]; exact zI_at _ _ _ _
  have qh9 : zI Mc3 (38 + sz) 9 = ((sz + 1 : Nat) : Int) := by rw [← eMc3]; exact zI_at _ _ _ _
  have CC : CZ sz Mc1 Mc3 := by
    rw [← eMc3, ← eMc2]
    refine ⟨fun x h1 h2 h3 => (((sameH_uI h2).trans (sameH_uI (by omega))).trans (sameH_uI (by omega))).trans (sameH_uI (by omega)), ?_, fun j hj => ?_⟩
    · rw [zI_uI, if_neg (by omega), zI_uI, if_neg (by omega), zI_uI, if_neg (by omega), zI_uI, if_neg (by omega)]
    · rw [zI_uI, if_neg (by omega), zI_uI, if_neg (by omega), zI_uI, if_neg (by omega), zI_uI, if_neg (by omega)]
  have t23 : zI Mc3 2 5 = zI Mc1 2 5 := by rw [← eMc3, ← eMc2, zI_uI, if_neg (by omega), zI_uI, if_neg (by omega), zI_uI, if_neg (by omega), zI_uI, if_neg (by omega)]
  generalize eMr2 : uI (uI (uI Mr1 20 34 ((sz + 1 : Nat) : Int)) 28 sz k) 29 sz (s : Int) = Mr2
  have u34 : zI Mr2 20 34 = ((sz + 1 : Nat) : Int) := by rw [← eMr2, zI_uI, if_neg (by omega), zI_uI, if_neg (by omega), zI_at]
  have u28 : zI Mr2 28 sz = k := by rw [← eMr2, zI_uI, if_neg (by omega), zI_at]
  have u29 : zI Mr2 29 sz = (s : Int) := by rw [← eMr2, zI_at]
  have RR2 : RZ sz Mr1 Mr2 := by
    rw [← eMr2]
    refine ⟨fun x h1 h2 => ((sameH_uI h1).trans (sameH_uI (by omega))).trans (sameH_uI (by omega)), fun j h1 h2 h3 h4 => ?_, fun _ => rfl, fun j hj => ⟨?_, ?_, ?_, ?_⟩, fun j _ => ?_⟩
    · rw [zI_uI, if_neg (by omega), zI_uI, if_neg (by omega), zI_uI, if_neg (by omega)]
    · rw [zI_uI, if_neg (by omega), zI_uI, if_neg (by omega), zI_uI, if_neg (by omega)]
    · rw [zI_uI, if_neg (by omega), zI_uI, if_neg (by omega), zI_uI, if_neg (by omega)]
    · rw [zI_uI, if_neg (by omega), zI_uI, if_neg (by omega), zI_uI, if_neg (by omega)]
    · rw [zI_uI, if_neg (by omega), zI_uI, if_neg (by omega), zI_uI, if_neg (by omega)]
    · rw [zI_uI, if_neg (by omega), zI_uI, if_neg (by omega), zI_uI, if_neg (by omega)]
  have TR2 : TR n B Mr2 := ⟨by rw [RR2.2.1 8 (by omega) (by omega) (by omega) (by omega)]; exact R1.1, fun j hj => by rw [(RR2.1 25 (by omega) (by omega) j).1]; exact R1.2 j hj⟩
  have u9 : zI Mr2 20 9 = (s : Int) := by rw [← eMr2, zI_uI, if_neg (by omega), zI_uI, if_neg (by omega), zI_uI, if_neg (by omega)]; exact a5
  obtain ⟨Mr3, p1, p2, p3⟩ := a12 Mr2 TR2 u9
  have S3 : SR n B (s + m) Mc3 Mr3 := ⟨⟨by rw [CC.2.1]; exact T1.1, fun j hj => by rw [(CC.1 3 (by omega) (by omega) (by omega) j).1]; exact T1.2 j hj⟩, TR2.mv p2, by rw [t23]; exact a6, p3, a9⟩
  have K3 : KON Mr3 := (K1.rz RR2).rf p2
  have v34 : zI Mr3 20 34 = ((sz + 1 : Nat) : Int) := by rw [p2.2.1 34 (by omega) (by omega) (by omega)]; exact u34
  have v28 : zI Mr3 28 sz = k := by rw [(p2.1 28 (by omega) sz).1]; exact u28
  have v29 : zI Mr3 29 sz = (s : Int) := by rw [(p2.1 29 (by omega) sz).1]; exact u29
  have FC : CZ sz Mc Mc3 := (a3.cz sz).trans CC
  have FR : RZ sz Mr Mr3 := ((a4.rz sz).trans RR2).trans (p2.rz sz)
  have e292 : ∀ (f : Int) (M : MZ), (f = 0 ∨ f = 1) → g_X12_readsStep_292 sz f M = some (f, uI M 32 sz (zI M 20 34)) := by
    intro f M hf
    unfold g_X12_readsStep_292
    rw [if_pos hb40, if_pos hf, Int.toNat_natCast]
  have F32 : ∀ (M : MZ) (v : Int), RZ sz M (uI M 32 sz v) := fun M v => ⟨fun x h1 h2 => sameH_uI (by omega), fun j _ _ _ _ => by rw [zI_uI, if_neg (by omega)], fun _ => rfl, fun j hj => ⟨by rw [zI_uI, if_neg (by omega)], by rw [zI_uI, if_neg (by omega)], by rw [zI_uI, if_neg (by omega)], by rw [zI_uI, if_neg (by omega)]⟩, fun j _ => by rw [zI_uI, if_neg (by omega)]⟩
  -- at fault
  have flt : ∀ (Mc' Mr' : MZ), CH (38 + sz) Mc3 Mc' → RH sz Mr3 Mr' → zI Mr' 20 10 = zI Mc' 2 1 → Rd n B sz Mc Mr (some (0, Mc')) (g_X12_readsStep_292 sz 0 Mr') := by
    intro Mc' Mr' h1 h2 h3
    rw [e292 0 Mr' (Or.inl rfl)]
    exact Or.inl ⟨Mc', _, rfl, rfl, FC.trans h1.cz, (FR.trans h2.rz).trans (F32 _ _), by rw [zI_uI, if_neg (by omega)]; exact h3⟩
  -- what stands of a step
  have stq : ∀ (Mc' Mr' : MZ), CH (38 + sz) Mc3 Mc' → RH sz Mr3 Mr' → (k = 0 ∨ k = 1 ∨ k = 5 → PSp Mc' Mr' sz ∧ MUp Mc' Mr' sz) → (k = 2 → RGp Mc' Mr' sz ∧ AMp Mc' Mr' sz) → (k = 3 → RGp Mc' Mr' sz) → (k = 4 → LEp Mc' Mr' sz) → (k = 6 → TMp Mc' Mr' sz) → STQ Mc' Mr' sz := by
    intro Mc' Mr' h1 h2 g1 g2 g3 g4 g5
    have w28 : zI Mr' 28 sz = k := by rw [(h2.1 28 (by omega) (by omega) (by omega) sz).1]; exact v28
    have w29 : zI Mr' 29 sz = (s : Int) := by rw [(h2.1 29 (by omega) (by omega) (by omega) sz).1]; exact v29
    unfold STQ
    rw [w28, w29, h1.2.2 0 (by omega), h1.2.2 1 (by omega)]
    exact ⟨⟨qh0, by omega⟩, ⟨qh1, by omega⟩, g1, g2, g3, g4, g5⟩
  -- read, without brackets
  have ok4 : ∀ (Mc' Mr' : MZ), k ≤ 4 → CH (38 + sz) Mc3 Mc' → RH sz Mr3 Mr' → (∃ j, SR n B j Mc' Mr') → STQ Mc' Mr' sz → Rd n B sz Mc Mr (some (1, Mc')) (g_X12_readsStep_292 sz 1 Mr') := by
    intro Mc' Mr' hk4 h1 h2 ⟨j', s'⟩ g
    have w34 : zI Mr' 20 34 = ((sz + 1 : Nat) : Int) := by rw [h2.2.1 34 (by omega) (by omega) (by omega)]; exact v34
    have w28 : zI Mr' 28 sz = k := by rw [(h2.1 28 (by omega) (by omega) (by omega) sz).1]; exact v28
    rw [e292 1 Mr' (Or.inr rfl), w34]
    refine Or.inr ⟨Mc', uI Mr' 32 sz ((sz + 1 : Nat) : Int), j', rfl, FC.trans h1.cz, (FR.trans h2.rz).trans (F32 _ _), ?_, ?_, by rw [(h1.1 6 (by omega) (by omega) 0).1]; exact q60, by rw [zI_uI, if_neg (by omega)]; exact w34, by rw [h1.2.2 9 (by omega)]; exact qh9, Or.inl ⟨by rw [zI_uI, if_neg (by omega), w28]; exact hk4, rfl, zI_at _ _ _ _⟩⟩
    · obtain ⟨y1, y2, y3, y4, y5⟩ := s'
      exact ⟨y1, ⟨by rw [zI_uI, if_neg (by omega)]; exact y2.1, fun j hj => by rw [zI_uI, if_neg (by omega)]; exact y2.2 j hj⟩, y3, by rw [zI_uI, if_neg (by omega)]; exact y4, y5⟩
    · exact g.mv (fun _ _ => rfl) (by rw [zI_uI, if_neg (by omega)]) (by rw [zI_uI, if_neg (by omega)]) (fun j _ _ => by rw [zI_uI, if_neg (by omega)]) (by rw [zI_uI, if_neg (by omega)])
  -- read, with brackets to come
  have ok5 : ∀ (Mc' Mr' : MZ), 5 ≤ k → CH (38 + sz) Mc3 Mc' → RH sz Mr3 Mr' → (∃ j, SR n B j Mc' Mr') → STQ Mc' Mr' sz → Rd n B sz Mc Mr (some (1, Mc')) ((g_X12_opens sz Mr').bind fun q => if q.1 = 0 then g_X12_readsStep_292 sz 0 q.2 else g_X12_readsStep_292 sz 1 q.2) := by
    intro Mc' Mr' hk5 h1 h2 ⟨j', s'⟩ g
    have w34 : zI Mr' 20 34 = ((sz + 1 : Nat) : Int) := by rw [h2.2.1 34 (by omega) (by omega) (by omega)]; exact v34
    have w28 : zI Mr' 28 sz = k := by rw [(h2.1 28 (by omega) (by omega) (by omega) sz).1]; exact v28
    exact Or.inr ⟨Mc', Mr', j', rfl, FC.trans h1.cz, FR.trans h2.rz, s', g, by rw [(h1.1 6 (by omega) (by omega) 0).1]; exact q60, w34, by rw [h1.2.2 9 (by omega)]; exact qh9, Or.inr ⟨by rw [w28]; exact hk5, rfl⟩⟩
  rw [p1]
  simp only [bindS]
  clear eMc2 eMc3 eMr2 e23 e23'
  have hk7 : k = 0 ∨ k = 1 ∨ k = 2 ∨ k = 3 ∨ k = 4 ∨ k = 5 ∨ k = 6 := by omega
  -- in and out
  have inout : k = 0 ∨ k = 1 → Rd n B sz Mc Mr (g_X6_readStep_186 (38 + sz) Mc3) (g_X12_readsStep_116 sz Mr3) := by
    intro h01
    obtain ⟨f1, Mc4, Mr4, b1, b2, b3, b4, b5⟩ := sim_pm b h39 K3 S3
    have b2' := b2 (g_X12_readsStep_140 sz) (g_X12_readsStep_141 sz 1)
    have e116 : g_X12_readsStep_116 sz Mr3 = _ := b2'
    rw [b1, e116]
    rcases b5 with ⟨e1, s1, P1⟩ | ⟨e1, x1⟩
    · subst e1
      rw [if_neg (show ¬ (1 : Int) = 0 by omega)]
      exact ok4 Mc4 Mr4 (by omega) b3 b4 s1 (stq Mc4 Mr4 b3 b4 (fun _ => P1) (fun q => by omega) (fun q => by omega) (fun q => by omega) (fun q => by omega))
    · subst e1
      rw [if_pos rfl]
      exact flt Mc4 Mr4 b3 b4 x1
  rcases hk7 with rfl | rfl | rfl | rfl | rfl | rfl | rfl
  · rw [if_neg (by omega), if_neg (by omega), if_neg (by omega), if_neg (by omega), if_neg (by omega), if_pos (show (0 : Int) = 0 from rfl)]
    exact inout (Or.inl rfl)
  · rw [if_neg (by omega), if_neg (by omega), if_neg (by omega), if_neg (by omega), if_neg (by omega), if_neg (by omega), if_pos (show (1 : Int) = 1 from rfl)]
    exact inout (Or.inr rfl)
  · rw [if_pos (show (2 : Int) = 2 from rfl), if_neg (by omega), if_neg (by omega), if_pos (show (2 : Int) = 2 from rfl)]
    obtain ⟨f1, Mc4, Mr4, b1, b2, b3, b4, b5⟩ := sim_ad b h39 S3
    have b1' := b1
    rw [b2]
    have goal1 : Rd n B sz Mc Mr (some (f1, Mc4)) (g_X12_readsStep_292 sz f1 Mr4) := by
      rcases b5 with ⟨e1, s1, P1⟩ | ⟨e1, x1⟩
      · subst e1
        exact ok4 Mc4 Mr4 (by omega) b3 b4 s1 (stq Mc4 Mr4 b3 b4 (fun q => by omega) (fun _ => P1) (fun q => by omega) (fun q => by omega) (fun q => by omega))
      · subst e1
        exact flt Mc4 Mr4 b3 b4 x1
    rw [← b1'] at goal1
    exact goal1
  · rw [if_neg (by omega), if_pos (show (3 : Int) = 3 from rfl), if_neg (by omega), if_neg (by omega), if_neg (by omega), if_pos (show (3 : Int) = 3 from rfl)]
    obtain ⟨f1, Mc4, Mr4, b1, b2, b3, b4, b5⟩ := sim_rg b h39 S3
    have b1' : g_X6_readRange (7 + 31 + sz) Mc3 = some (f1, Mc4) := b1
    rw [b1', b2]
    simp only [bindS]
    rcases b5 with ⟨e1, s1, P1⟩ | ⟨e1, x1⟩
    · subst e1
      rw [if_pos (Or.inr rfl)]
      exact ok4 Mc4 Mr4 (by omega) b3 b4 s1 (stq Mc4 Mr4 b3 b4 (fun q => by omega) (fun q => by omega) (fun _ => P1) (fun q => by omega) (fun q => by omega))
    · subst e1
      rw [if_pos (Or.inl rfl)]
      exact flt Mc4 Mr4 b3 b4 x1
  · rw [if_neg (by omega), if_neg (by omega), if_pos (show (4 : Int) = 4 from rfl), if_neg (by omega), if_neg (by omega), if_neg (by omega), if_neg (by omega), if_pos (show (4 : Int) = 4 from rfl)]
    obtain ⟨f1, Mc4, Mr4, b1, b2, b3, b4, b5⟩ := sim_le b h39 S3
    have b1' : g_X6_readLeast (7 + 31 + sz) Mc3 = some (f1, Mc4) := b1
    rw [b1', b2]
    simp only [bindS]
    rcases b5 with ⟨e1, s1, P1⟩ | ⟨e1, x1⟩
    · subst e1
      rw [if_pos (Or.inr rfl)]
      exact ok4 Mc4 Mr4 (by omega) b3 b4 s1 (stq Mc4 Mr4 b3 b4 (fun q => by omega) (fun q => by omega) (fun q => by omega) (fun _ => P1) (fun q => by omega))
    · subst e1
      rw [if_pos (Or.inl rfl)]
      exact flt Mc4 Mr4 b3 b4 x1
  · rw [if_neg (by omega), if_neg (by omega), if_neg (by omega), if_pos (show (5 : Int) = 5 from rfl), if_neg (by omega), if_neg (by omega), if_neg (by omega), if_neg (by omega), if_neg (by omega), if_pos (show (5 : Int) = 5 from rfl)]
    obtain ⟨f1, Mc4, Mr4, b1, b2, b3, b4, b5⟩ := sim_pm b h39 K3 S3
    have b2' := b2 (g_X12_readsStep_258 sz) (fun M => (g_X12_opens sz M).bind fun q248 => (if q248.1 = 0 then (g_X12_readsStep_258 sz q248.2) else (g_X12_readsStep_259 sz 1 q248.2)))
    have b1' : g_X6_readStep_186 (7 + 31 + sz) Mc3 = some (f1, Mc4) := b1
    rw [b1', b2']
    rcases b5 with ⟨e1, s1, P1⟩ | ⟨e1, x1⟩
    · subst e1
      rw [if_neg (show ¬ (1 : Int) = 0 by omega)]
      exact ok5 Mc4 Mr4 (by omega) b3 b4 s1 (stq Mc4 Mr4 b3 b4 (fun _ => P1) (fun q => by omega) (fun q => by omega) (fun q => by omega) (fun q => by omega))
    · subst e1
      rw [if_pos rfl]
      exact flt Mc4 Mr4 b3 b4 x1
  · rw [if_neg (by omega), if_neg (by omega), if_neg (by omega), if_neg (by omega), if_pos (show (6 : Int) = 6 from rfl), if_neg (by omega), if_neg (by omega), if_neg (by omega), if_neg (by omega), if_neg (by omega), if_neg (by omega)]
    obtain ⟨f1, Mc4, Mr4, b1, b2, b3, b4, b5⟩ := sim_tm b h39 S3
    have b1' : g_X6_readAmount (7 + 31 + sz) 0 20 Mc3 = some (f1, Mc4) := b1
    rw [b1', b2]
    simp only [bindS]
    rcases b5 with ⟨e1, s1, P1⟩ | ⟨e1, x1⟩
    · subst e1
      rw [if_pos (Or.inr rfl), if_neg (show ¬ (1 : Int) = 0 by omega)]
      exact ok5 Mc4 Mr4 (by omega) b3 b4 s1 (stq Mc4 Mr4 b3 b4 (fun q => by omega) (fun q => by omega) (fun q => by omega) (fun q => by omega) (fun _ => P1))
    · subst e1
      rw [if_pos (Or.inl rfl), if_pos rfl]
      exact flt Mc4 Mr4 b3 b4 x1
end BS2
