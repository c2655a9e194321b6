/-! a swap on paper: root, zone, left, gave, paid, fees, crossed -/
abbrev PT : Type := Int × Int × Int × Int × Int × Int × Int
def ptS (T : Nat → Int) (L : List (Nat → Int)) (p : Nat) (side e o : Int) (s : PT) : PT :=
  (yRt T L p side e o s.1 s.2.1 s.2.2.1, yZ T L p side e o s.1 s.2.1 s.2.2.1, yLe T L p side e o s.1 s.2.1 s.2.2.1, w64 (s.2.2.2.1 + yGo T L p side e o s.1 s.2.1 s.2.2.1), w64 (s.2.2.2.2.1 + w64 (yCo T L p side e o s.1 s.2.1 s.2.2.1 + yFe T L p side e o s.1 s.2.1 s.2.2.1)), w64 (s.2.2.2.2.2.1 + yFe T L p side e o s.1 s.2.1 s.2.2.1), if yC T L p side e o s.1 s.2.1 s.2.2.1 then w32 (s.2.2.2.2.2.2 + 1) else s.2.2.2.2.2.2)
def pth (T : Nat → Int) (L : List (Nat → Int)) (p : Nat) (side e o : Int) : Nat → Bool → PT → PT
  | 0, _, s => s
  | n + 1, ae, s => if s.2.2.1 ≤ 0 ∨ ae = true then s else pth T L p side e o n (yE T L p side e o s.1 s.2.1 s.2.2.1) (ptS T L p side e o s)
def ptm (side e : Int) (ae : Bool) (s : PT) : Int := if s.2.2.1 ≤ 0 ∨ ae = true then 0 else if side = 0 then s.2.1 - e + 1 else e - s.2.1
def Qae (side e : Int) (ae : Bool) (s : PT) : Prop := (ae = false → if side = 0 then e ≤ s.2.1 else s.2.1 < e) ∧ (0 ≤ s.2.2.1 ∧ s.2.2.1 ≤ 10000000000) ∧ Rzz s.1 s.2.1
section PP
variable {M : MZ} {b : Nat} {kk : Bool} {N T : Nat → Int} {L : List (Nat → Int)} {th pe po : Int}
theorem Qgo_of {s : PT} {p : Nat} {side e o : Int} {ae : Bool} (hb : Pbg p po side e o) (ha : Qae side e ae s) (hn : ¬ (s.2.2.1 ≤ 0 ∨ ae = true)) : Qgo p po side e o s.1 s.2.1 s.2.2.1 := by
  obtain ⟨h1, h2, h3, h4, h5⟩ := hb
  have : ae = false := by
    cases ae
    · rfl
    · exact absurd (Or.inr rfl) hn
  exact ⟨h1, h2, h3, h4, h5, ha.1 this, by have := ha.2.1; omega, ha.2.2⟩
/-- root and zone behind a step -/
theorem yZ_rz (hT : ∀ p : Nat, p < 5 → (p : Int) < po → Told T th p) (hL : Lok pe po L) (h12 : L.length ≤ 12) {p : Nat} {side e o r z left : Int} (h : Qgo p po side e o r z left) : Rzz (yRt T L p side e o r z left) (yZ T L p side e o r z left) ∧ (side = 0 → yZ T L p side e o r z left ≤ z ∧ e ≤ yZ T L p side e o r z left ∧ (yC T L p side e o r z left = true → yZ T L p side e o r z left < z ∧ aim L p side z e = yZ T L p side e o r z left + 1)) ∧ (side = 1 → z ≤ yZ T L p side e o r z left ∧ yZ T L p side e o r z left < e ∧ (yC T L p side e o r z left = true → z < yZ T L p side e o r z left ∧ aim L p side z e = yZ T L p side e o r z left)) := by
  obtain ⟨hP, hA, hA0, hA1⟩ := h.pst hT hL h12
  have hrt := sRt_r hP
  obtain ⟨hp, hq, hs, ho, he, hge, hle, hrz⟩ := h
  have hz := hrz.1
  by_cases hre : yRe T L p side e o r z left = true
  · have er : yRt T L p side e o r z left = rtz (aim L p side z e) := by
      have hre' : sRe o side (dep L p z) r (rtz (aim L p side z e)) (T (5 * p + 2)) left = true := hre
      unfold yRt sRt
      rw [if_pos hre']
    unfold yZ yC
    rw [er, hre, if_pos rfl]
    by_cases ce : aim L p side z e = e
    · rw [if_pos ce, ce]
      have cC : (true && !decide (e = e)) = true ↔ False := by simp
      rcases hs with rfl | rfl
      · have := hA0 rfl
        rw [if_pos rfl]
        have b1 := rtz_lt (a := e) (b := e + 1) (by omega) (by omega) (by omega)
        exact ⟨⟨by omega, Int.le_refl _, by omega⟩, fun _ => ⟨by omega, by omega, fun q => (cC.mp q).elim⟩, fun q => by omega⟩
      · have := hA1 rfl
        rw [if_neg (by omega)]
        have b1 := rtz_lt (a := e - 1) (b := e) (by omega) (by omega) (by omega)
        exact ⟨⟨by omega, by omega, by rw [show e - 1 + 1 = e by omega]; exact Int.le_refl _⟩, fun q => by omega, fun _ => ⟨by omega, by omega, fun q => (cC.mp q).elim⟩⟩
    · rw [if_neg ce]
      rcases hs with rfl | rfl
      · have := hA0 rfl
        rw [if_pos rfl]
        have b1 := rtz_lt (a := aim L p 0 z e - 1) (b := aim L p 0 z e) (by omega) (by omega) (by omega)
        exact ⟨⟨by omega, by omega, by rw [show aim L p 0 z e - 1 + 1 = aim L p 0 z e by omega]; exact Int.le_refl _⟩, fun _ => ⟨by omega, by omega, fun _ => ⟨by omega, by omega⟩⟩, fun q => by omega⟩
      · have := hA1 rfl
        rw [if_neg (by omega)]
        have b1 := rtz_lt (a := aim L p 1 z e) (b := aim L p 1 z e + 1) (by omega) (by omega) (by omega)
        exact ⟨⟨by omega, Int.le_refl _, by omega⟩, fun q => by omega, fun _ => ⟨by omega, by omega, fun _ => ⟨by omega, rfl⟩⟩⟩
  · have eC : yC T L p side e o r z left = false := by
      unfold yC
      simp [hre]
    unfold yZ
    rw [if_neg hre]
    obtain ⟨c1, c2, c3⟩ := zBe_rz (r' := yRt T L p side e o r z left) hs hrz hA (fun q => ⟨(hA0 q).2, hrt.1 q⟩) (fun q => ⟨(hA1 q).1, hrt.2 q⟩)
    rw [eC]
    exact ⟨c1, fun q => ⟨(c2 q).2, by have := (c2 q).1; have := hA0 q; omega, fun q => by cases q⟩, fun q => ⟨(c3 q).1, by have := (c3 q).2; have := hA1 q; omega, fun q => by cases q⟩⟩
theorem ptS_next (hT : ∀ p : Nat, p < 5 → (p : Int) < po → Told T th p) (hL : Lok pe po L) (h12 : L.length ≤ 12) {s : PT} {p : Nat} {side e o : Int} {ae : Bool} (hb : Pbg p po side e o) (ha : Qae side e ae s) (hn : ¬ (s.2.2.1 ≤ 0 ∨ ae = true)) : Qae side e (yE T L p side e o s.1 s.2.1 s.2.2.1) (ptS T L p side e o s) ∧ ptm side e (yE T L p side e o s.1 s.2.1 s.2.2.1) (ptS T L p side e o s) < ptm side e ae s := by
  have hg := Qgo_of hb ha hn
  obtain ⟨z1, z2, z3⟩ := yZ_rz hT hL h12 hg
  obtain ⟨hP, hA, hA0, hA1⟩ := hg.pst hT hL h12
  have hle := sLe_r hP
  have hle' : 0 ≤ yLe T L p side e o s.1 s.2.1 s.2.2.1 ∧ yLe T L p side e o s.1 s.2.1 s.2.2.1 ≤ s.2.2.1 ∧ (yRe T L p side e o s.1 s.2.1 s.2.2.1 = false → yLe T L p side e o s.1 s.2.1 s.2.2.1 = 0) := hle
  have ez : (ptS T L p side e o s).2.1 = yZ T L p side e o s.1 s.2.1 s.2.2.1 := rfl
  have el : (ptS T L p side e o s).2.2.1 = yLe T L p side e o s.1 s.2.1 s.2.2.1 := rfl
  obtain ⟨h1, h2, h3, h4, h5⟩ := hb
  have ha2 := ha.2.1
  have hge := hg.2.2.2.2.2.1
  have hm : ptm side e ae s = if side = 0 then s.2.1 - e + 1 else e - s.2.1 := by unfold ptm; rw [if_neg hn]
  refine ⟨⟨fun _ => ?_, by rw [el]; omega, z1⟩, ?_⟩
  · rw [ez]
    rcases h3 with rfl | rfl
    · rw [if_pos rfl]
      exact (z2 rfl).2.1
    · rw [if_neg (by omega)]
      exact (z3 rfl).2.1
  · rw [hm]
    unfold ptm
    rw [el, ez]
    by_cases c : yLe T L p side e o s.1 s.2.1 s.2.2.1 ≤ 0 ∨ yE T L p side e o s.1 s.2.1 s.2.2.1 = true
    · rw [if_pos c]
      rcases h3 with rfl | rfl
      · rw [if_pos rfl] at hge ⊢
        omega
      · rw [if_neg (by omega)] at hge ⊢
        omega
    · rw [if_neg c]
      have hre : yRe T L p side e o s.1 s.2.1 s.2.2.1 = true := by
        cases hq : yRe T L p side e o s.1 s.2.1 s.2.2.1
        · exact absurd (Or.inl (by rw [hle'.2.2 hq]; exact Int.le_refl _)) c
        · rfl
      have hC : yC T L p side e o s.1 s.2.1 s.2.2.1 = true := by
        have hE : ¬ yE T L p side e o s.1 s.2.1 s.2.2.1 = true := fun q => c (Or.inr q)
        unfold yE at hE
        unfold yC
        rw [hre] at hE ⊢
        simp at hE ⊢
        exact hE
      rcases h3 with rfl | rfl
      · rw [if_pos rfl, if_pos rfl]
        have := (z2 rfl).2.2 hC
        omega
      · rw [if_neg (by omega), if_neg (by omega)]
        have := (z3 rfl).2.2 hC
        omega
/-- the trade says the same as such a state -/
def TP (M : MZ) (b p : Nat) (side re : Int) (ae : Bool) (s : PT) : Prop := TS M b p side re s.1 s.2.1 s.2.2.1 s.2.2.2.1 ∧ zL M 4 12 = s.2.2.2.2.1 ∧ zL M 4 13 = s.2.2.2.2.2.1 ∧ zI M 4 9 = s.2.2.2.2.2.2 ∧ zI M 4 6 = (if ae then 1 else 0)
def stepO (o e : Int) (M : MZ) : Option (Unit × MZ) := if o = 0 then g_X10_pourStep e M else g_X10_drainStep e M
theorem K_step_paper (hb : bOK b) (R : Rep kk M b N T L th pe po) (hT : ∀ p : Nat, p < 5 → (p : Int) < po → Told T th p) (hL : Lok pe po L) {p : Nat} {side e o : Int} {s : PT} {ae : Bool} (hS : TP M b p side 0 ae s) (hpb : Pbg p po side e o) (ha : Qae side e ae s) (hn : ¬ (s.2.2.1 ≤ 0 ∨ ae = true)) : ∃ M', stepO o e M = some ((), M') ∧ TP M' b p side 0 (yE T L p side e o s.1 s.2.1 s.2.2.1) (ptS T L p side e o s) ∧ (∀ x, x ≠ 4 → sameH M M' x) := by
  have h := Qgo_of hpb ha hn
  have hae : ae = false := by
    cases ae
    · rfl
    · exact absurd (Or.inr rfl) hn
  obtain ⟨hP, hA, hA0, hA1⟩ := h.pst hT hL R.2.2.2.2.2.2
  have hrt := sRt_r hP
  obtain ⟨hTS, t12, t13, t9, t6⟩ := hS
  have hTS' := hTS
  obtain ⟨s0, s1, s2, s3, s4, s5, s8, s10, s11⟩ := hTS'
  generalize eMA : uL (uL (uI M 4 5 (yRt T L p side e o s.1 s.2.1 s.2.2.1)) 4 11 (w64 (s.2.2.2.1 + yGo T L p side e o s.1 s.2.1 s.2.2.1))) 4 10 (yLe T L p side e o s.1 s.2.1 s.2.2.1) = MA
  have hst : stepO o e M = ((g_X10_takeIn (yCo T L p side e o s.1 s.2.1 s.2.2.1) (yFe T L p side e o s.1 s.2.1 s.2.2.1) MA).bind fun q => ((g_X10_arrive (aim L p side s.2.1 e) (if aim L p side s.2.1 e = e then 1 else 0) (yF T L p side e o s.1 s.2.1 s.2.2.1) q.2).bind fun q2 => (some ((), q2.2)))) := by
    unfold stepO
    rw [← eMA]
    rcases hpb.2.2.2.1 with rfl | rfl
    · rw [if_pos rfl]
      exact K_pourA hb R hT hL hTS h
    · rw [if_neg (by omega)]
      exact K_drainA hb R hT hL hTS h
  have iA : ∀ k, zI MA 4 k = if k = 5 then yRt T L p side e o s.1 s.2.1 s.2.2.1 else zI M 4 k := fun k => by
    rw [← eMA, zI_uL, zI_uL, zI_uI]; simp only [true_and]
  have lA : ∀ k, zL MA 4 k = if k = 10 then yLe T L p side e o s.1 s.2.1 s.2.2.1 else if k = 11 then w64 (s.2.2.2.1 + yGo T L p side e o s.1 s.2.1 s.2.2.1) else zL M 4 k := fun k => by
    rw [← eMA, zL_uL, zL_uL, zL_uI]; simp only [true_and]
  have rA : ∀ k, zR MA 4 k = zR M 4 k := fun k => by rw [← eMA]; rfl
  have fA : ∀ x, x ≠ 4 → sameH M MA x := fun x hx => by
    rw [← eMA]; exact ((sameH_uI hx).trans (sameH_uL hx)).trans (sameH_uL hx)
  have k1 := K_takeIn0 (M := MA) (co := yCo T L p side e o s.1 s.2.1 s.2.2.1) (fe := yFe T L p side e o s.1 s.2.1 s.2.2.1) (paid := s.2.2.2.2.1) (fees := s.2.2.2.2.2.1) (by rw [iA, if_neg (by omega)]; exact s4) (by rw [lA, if_neg (by omega), if_neg (by omega)]; exact t12) (by rw [lA, if_neg (by omega), if_neg (by omega)]; exact t13)
  generalize eMB : uL (uL MA 4 12 (w64 (s.2.2.2.2.1 + w64 (yCo T L p side e o s.1 s.2.1 s.2.2.1 + yFe T L p side e o s.1 s.2.1 s.2.2.1)))) 4 13 (w64 (s.2.2.2.2.2.1 + yFe T L p side e o s.1 s.2.1 s.2.2.1)) = MB at k1
  have iB : ∀ k, zI MB 4 k = zI MA 4 k := fun k => by rw [← eMB]; rfl
  have lB : ∀ k, zL MB 4 k = if k = 13 then w64 (s.2.2.2.2.2.1 + yFe T L p side e o s.1 s.2.1 s.2.2.1) else if k = 12 then w64 (s.2.2.2.2.1 + w64 (yCo T L p side e o s.1 s.2.1 s.2.2.1 + yFe T L p side e o s.1 s.2.1 s.2.2.1)) else zL MA 4 k := fun k => by
    rw [← eMB, zL_uL, zL_uL]; simp only [true_and]
  have rB : ∀ k, zR MB 4 k = zR MA 4 k := fun k => by rw [← eMB]; rfl
  have fB : ∀ x, x ≠ 4 → sameH M MB x := fun x hx => by
    rw [← eMB]; exact ((fA x hx).trans (sameH_uL hx)).trans (sameH_uL hx)
  have hr : 38554 ≤ yRt T L p side e o s.1 s.2.1 s.2.2.1 := by
    have hz := ha.2.2
    have b1 := rtz_r (t := s.2.1) (by have := hz.1; omega) (by have := hz.1; omega)
    have b3 := rtz_r (t := aim L p side s.2.1 e) (by omega) (by omega)
    rcases hpb.2.2.1 with q | q
    · have := hrt.1 q
      show 38554 ≤ sRt _ _ _ _ _ _ _
      omega
    · have := hrt.2 q
      show 38554 ≤ sRt _ _ _ _ _ _ _
      have := hz.2
      omega
  obtain ⟨MC, c1, c2, c3, c4, c5, c6, c7, c8, c9⟩ := K_arriveA (M := MB) (T := T) (L := L) (cr := s.2.2.2.2.2.2) h hA (fun q => (hA1 q).1) hr (fun q => (hrt.2 q).1) (by rw [iB, iA, if_neg (by omega)]; exact s3) (by rw [iB, iA, if_pos rfl]) (by rw [iB, iA, if_neg (by omega)]; exact s8) (by rw [iB, iA, if_neg (by omega)]; exact t9)
  refine ⟨MC, ?_, ?_, fun x hx => (fB x hx).trans (c2 x hx)⟩
  · rw [hst, k1]
    simp only [bindS]
    rw [c1]
    have z4 : zI MC 4 4 = 0 := by rw [c3 4 (by omega) (by omega) (by omega) (by omega), iB, iA, if_neg (by omega)]; exact s4
    unfold g_X10_arrive_88 g_X10_arrive_117
    rw [z4, if_pos rfl]
    simp only [bindS]
  · refine ⟨⟨?_, ?_, ?_, ?_, ?_, ?_, ?_, ?_, ?_⟩, ?_, ?_, ?_, ?_⟩
    · rw [c5, rB, rA]; exact s0
    · rw [c5, rB, rA]; exact s1
    · rw [c3 2 (by omega) (by omega) (by omega) (by omega), iB, iA, if_neg (by omega)]; exact s2
    · rw [c3 3 (by omega) (by omega) (by omega) (by omega), iB, iA, if_neg (by omega)]; exact s3
    · rw [c3 4 (by omega) (by omega) (by omega) (by omega), iB, iA, if_neg (by omega)]; exact s4
    · rw [c3 5 (by omega) (by omega) (by omega) (by omega), iB, iA, if_pos rfl]; rfl
    · rw [c6]; rfl
    · rw [c4, lB, if_neg (by omega), if_neg (by omega), lA, if_pos rfl]; rfl
    · rw [c4, lB, if_neg (by omega), if_neg (by omega), lA, if_neg (by omega), if_pos rfl]; rfl
    · rw [c4, lB, if_neg (by omega), if_pos rfl]; rfl
    · rw [c4, lB, if_pos rfl]; rfl
    · rw [c7]; rfl
    · have b6 : zI MB 4 6 = 0 := by rw [iB, iA, if_neg (by omega), t6, hae]; rfl
      rw [c9, b6]
end PP
