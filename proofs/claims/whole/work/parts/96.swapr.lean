/-! a swap, the reference's half: numbers, row, left, came, gone, fees, crossed -/
abbrev SW : Type := (Nat → Int) × List (Nat → Int) × Int × Int × Int × Int × Int
def swS (T : Nat → Int) (p : Nat) (side e o : Int) (s : SW) : SW :=
  (xN s.1 T s.2.1 p side e o s.2.2.1, xL s.1 T s.2.1 p side e o s.2.2.1, xLe s.1 T s.2.1 p side e o s.2.2.1, w64 (s.2.2.2.1 + w64 (xCo s.1 T s.2.1 p side e o s.2.2.1 + xFe s.1 T s.2.1 p side e o s.2.2.1)), w64 (s.2.2.2.2.1 + xGo s.1 T s.2.1 p side e o s.2.2.1), w64 (s.2.2.2.2.2.1 + xFe s.1 T s.2.1 p side e o s.2.2.1), if xC s.1 T s.2.1 p side e o s.2.2.1 then w32 (s.2.2.2.2.2.2 + 1) else s.2.2.2.2.2.2)
def swp (T : Nat → Int) (p : Nat) (side e o : Int) : Nat → Bool → SW → SW
  | 0, _, s => s
  | n + 1, ae, s => if s.2.2.1 ≤ 0 ∨ ae = true then s else swp T p side e o n (xE s.1 T s.2.1 p side e o s.2.2.1) (swS T p side e o s)
/-- steps that may still come -/
def swm (p : Nat) (side e : Int) (ae : Bool) (s : SW) : Int := if s.2.2.1 ≤ 0 ∨ ae = true then 0 else if side = 0 then xz s.1 p - e + 1 else e - xz s.1 p
def Pbg (p : Nat) (po side e o : Int) : Prop := p < 5 ∧ (p : Int) < po ∧ (side = 0 ∨ side = 1) ∧ (o = 0 ∨ o = 1) ∧ (0 ≤ e ∧ e ≤ 40)
def Pae (p : Nat) (side e : Int) (ae : Bool) (s : SW) : Prop := (ae = false → if side = 0 then e ≤ xz s.1 p else xz s.1 p < e) ∧ (0 ≤ s.2.2.1 ∧ s.2.2.1 ≤ 10000000000)
section SWR
variable {M : MZ} {T : Nat → Int} {th pe po : Int}
theorem Pgo_of {s : SW} {p : Nat} {side e o : Int} {ae : Bool} (hb : Pbg p po side e o) (ha : Pae p side e ae s) (hn : ¬ (s.2.2.1 ≤ 0 ∨ ae = true)) : Pgo s.1 T s.2.1 p po side e o s.2.2.1 := by
  obtain ⟨h1, h2, h3, h4, h5⟩ := hb
  have : ae = false := by
    cases ae
    · rfl
    · exact absurd (Or.inr rfl) hn
  exact ⟨h1, h2, h3, h4, h5, ha.1 this, by have := ha.2; omega⟩
theorem swS_next {s : SW} {p : Nat} {side e o : Int} {ae : Bool} (hb : Pbg p po side e o) (ha : Pae p side e ae s) (hn : ¬ (s.2.2.1 ≤ 0 ∨ ae = true)) (W : WF s.1 T s.2.1 th pe po) (h12 : s.2.1.length ≤ 12) : WF (swS T p side e o s).1 T (swS T p side e o s).2.1 th pe po ∧ (swS T p side e o s).2.1.length ≤ 12 ∧ Pae p side e (xE s.1 T s.2.1 p side e o s.2.2.1) (swS T p side e o s) ∧ swm p side e (xE s.1 T s.2.1 p side e o s.2.2.1) (swS T p side e o s) < swm p side e ae s := by
  have hg := Pgo_of (T := T) hb ha hn
  obtain ⟨w1, w2, w3, w4⟩ := xN_WF W h12 hg
  obtain ⟨z1, z2, z3⟩ := xZ_rz W h12 hg
  obtain ⟨hP, hA, hA0, hA1, hrz⟩ := hg.pst W h12
  have hle := sLe_r hP
  have hle' : 0 ≤ xLe s.1 T s.2.1 p side e o s.2.2.1 ∧ xLe s.1 T s.2.1 p side e o s.2.2.1 ≤ s.2.2.1 ∧ (xRe s.1 T s.2.1 p side e o s.2.2.1 = false → xLe s.1 T s.2.1 p side e o s.2.2.1 = 0) := hle
  have ez : xz (swS T p side e o s).1 p = xZ s.1 T s.2.1 p side e o s.2.2.1 := w3
  have el : (swS T p side e o s).2.2.1 = xLe s.1 T s.2.1 p side e o s.2.2.1 := rfl
  have hb' := hb
  obtain ⟨h1, h2, h3, h4, h5⟩ := hb'
  have ha2 := ha.2
  have hge := hg.2.2.2.2.2.1
  have hz0 := hrz.1
  have hm : swm p side e ae s = if side = 0 then xz s.1 p - e + 1 else e - xz s.1 p := by unfold swm; rw [if_neg hn]
  refine ⟨w1, w4, ⟨?_, by rw [el]; omega⟩, ?_⟩
  · intro hE
    rw [ez]
    by_cases hre : xRe s.1 T s.2.1 p side e o s.2.2.1 = true
    · have hC : xC s.1 T s.2.1 p side e o s.2.2.1 = true := by
        unfold xE at hE
        unfold xC
        rw [hre] at hE ⊢
        simp at hE ⊢
        exact hE
      rcases h3 with rfl | rfl
      · rw [if_pos rfl]
        exact ((z2 rfl).2 hC).2.1
      · rw [if_neg (by omega)]
        exact ((z3 rfl).2 hC).2.1
    · have eZ : xZ s.1 T s.2.1 p side e o s.2.2.1 = zBe side (xz s.1 p) (xA s.1 s.2.1 p side e) (xRt s.1 T s.2.1 p side e o s.2.2.1) := by unfold xZ; rw [if_neg hre]
      have hrt := sRt_r hP
      obtain ⟨c1, c2, c3⟩ := zBe_rz (r' := xRt s.1 T s.2.1 p side e o s.2.2.1) h3 hrz hA (fun q => ⟨(hA0 q).2, hrt.1 q⟩) (fun q => ⟨(hA1 q).1, hrt.2 q⟩)
      rw [eZ]
      rcases h3 with rfl | rfl
      · rw [if_pos rfl]
        have := c2 rfl
        have := hA0 rfl
        omega
      · rw [if_neg (by omega)]
        have := c3 rfl
        have := hA1 rfl
        omega
  · rw [hm]
    unfold swm
    rw [el, ez]
    by_cases c : xLe s.1 T s.2.1 p side e o s.2.2.1 ≤ 0 ∨ xE s.1 T s.2.1 p side e o s.2.2.1 = true
    · rw [if_pos c]
      rcases h3 with rfl | rfl
      · rw [if_pos rfl] at hge ⊢
        omega
      · rw [if_neg (by omega)] at hge ⊢
        omega
    · rw [if_neg c]
      have hre : xRe s.1 T s.2.1 p side e o s.2.2.1 = true := by
        cases hq : xRe s.1 T s.2.1 p side e o s.2.2.1
        · exact absurd (Or.inl (by rw [hle'.2.2 hq]; exact Int.le_refl _)) c
        · rfl
      have hC : xC s.1 T s.2.1 p side e o s.2.2.1 = true := by
        have hE : ¬ xE s.1 T s.2.1 p side e o s.2.2.1 = true := fun q => c (Or.inr q)
        unfold xE at hE
        unfold xC
        rw [hre] at hE ⊢
        simp at hE ⊢
        exact hE
      rcases h3 with rfl | rfl
      · rw [if_pos rfl, if_pos rfl]
        have := (z2 rfl).2 hC
        omega
      · rw [if_neg (by omega), if_neg (by omega)]
        have := (z3 rfl).2 hC
        omega
/-- the reference's cells say the same as such a state -/
def RS (M : MZ) (T : Nat → Int) (th pe po : Int) (s : SW) : Prop := RepR M s.1 T s.2.1 th pe po ∧ zL M 20 29 = s.2.2.1 ∧ zL M 20 30 = s.2.2.2.1 ∧ zL M 20 31 = s.2.2.2.2.1 ∧ zL M 20 32 = s.2.2.2.2.2.1 ∧ zI M 20 33 = s.2.2.2.2.2.2
def FrS (M M' : MZ) : Prop := (∀ x, x ≠ 20 → x ≠ 23 → sameH M M' x) ∧ (∀ k, k ≠ 33 → zI M' 20 k = zI M 20 k) ∧ (∀ k, k < 29 ∨ 32 < k → zL M' 20 k = zL M 20 k)
theorem FrS.trans {M M' M'' : MZ} (a : FrS M M') (b : FrS M' M'') : FrS M M'' := ⟨fun x h1 h2 => (a.1 x h1 h2).trans (b.1 x h1 h2), fun k hk => (b.2.1 k hk).trans (a.2.1 k hk), fun k hk => (b.2.2 k hk).trans (a.2.2 k hk)⟩
theorem R_swaps_loop {p : Nat} {side e o : Int} (hb : Pbg p po side e o) : ∀ (n f : Nat) (M : MZ) (ae : Bool) (s : SW), swm p side e ae s ≤ n → n < f → KON M → RS M T th pe po s → WF s.1 T s.2.1 th pe po → Pae p side e ae s → ∃ M', g_X12_swaps_64 f p side e o (if ae then 1 else 0) M = some ((), M') ∧ RS M' T th pe po (swp T p side e o n ae s) ∧ WF (swp T p side e o n ae s).1 T (swp T p side e o n ae s).2.1 th pe po ∧ KON M' ∧ FrS M M' ∧ (swp T p side e o n ae s).2.1.length ≤ 12 ∧ (0 ≤ (swp T p side e o n ae s).2.2.1 ∧ (swp T p side e o n ae s).2.2.1 ≤ 10000000000) := by
  intro n
  induction n with
  | zero =>
    intro f M ae s hm hf K R W ha
    obtain ⟨f, rfl⟩ : ∃ g, f = g + 1 := ⟨f - 1, by omega⟩
    have hn : s.2.2.1 ≤ 0 ∨ ae = true := by
      rcases Classical.em (s.2.2.1 ≤ 0 ∨ ae = true) with c | c
      · exact c
      · exfalso
        have hg := Pgo_of (T := T) hb ha c
        have hge := hg.2.2.2.2.2.1
        unfold swm at hm
        rw [if_neg c] at hm
        rcases hb.2.2.1 with rfl | rfl
        · rw [if_pos rfl] at hge hm; omega
        · rw [if_neg (by omega)] at hge hm; omega
    refine ⟨M, ?_, R, W, K, ⟨fun _ _ _ => sameH.rfl, fun _ _ => rfl, fun _ _ => rfl⟩, R.1.2.2.2.2.2, ha.2⟩
    have e1 : g_X12_swaps_64 (f + 1) p side e o (if ae then 1 else 0) M = g_X12_swaps_64B (g_X12_swaps_64 f) p side e o (if ae then 1 else 0) M := rfl
    rw [e1]
    unfold g_X12_swaps_64B g_X12_swaps_93
    rw [R.2.1]
    rcases hn with c | c
    · rw [if_pos c]
    · subst c
      split
      · rfl
      · rfl
  | succ n ih =>
    intro f M ae s hm hf K R W ha
    obtain ⟨f, rfl⟩ : ∃ g, f = g + 1 := ⟨f - 1, by omega⟩
    have e1 : g_X12_swaps_64 (f + 1) p side e o (if ae then 1 else 0) M = g_X12_swaps_64B (g_X12_swaps_64 f) p side e o (if ae then 1 else 0) M := rfl
    have e2 : swp T p side e o (n + 1) ae s = if s.2.2.1 ≤ 0 ∨ ae = true then s else swp T p side e o n (xE s.1 T s.2.1 p side e o s.2.2.1) (swS T p side e o s) := rfl
    by_cases c : s.2.2.1 ≤ 0 ∨ ae = true
    · rw [e2, if_pos c]
      refine ⟨M, ?_, R, W, K, ⟨fun _ _ _ => sameH.rfl, fun _ _ => rfl, fun _ _ => rfl⟩, R.1.2.2.2.2.2, ha.2⟩
      rw [e1]
      unfold g_X12_swaps_64B g_X12_swaps_93
      rw [R.2.1]
      rcases c with c | c
      · rw [if_pos c]
      · subst c
        split
        · rfl
        · rfl
    · rw [e2, if_neg c]
      have hg := Pgo_of (T := T) hb ha c
      obtain ⟨w1, w2, w3, w4⟩ := swS_next hb ha c W R.1.2.2.2.2.2
      obtain ⟨M1, a1, a2, a3, a4, a5, a6, a7, a8, a9, a10, a11⟩ := R_steps R.1 K W hg R.2.1
      have hae : ae = false := by
        cases ae
        · rfl
        · exact absurd (Or.inr rfl) c
      have RS1 : RS M1 T th pe po (swS T p side e o s) := by
        refine ⟨a2, a5, ?_, ?_, ?_, ?_⟩
        · rw [a6, R.2.2.1]; rfl
        · rw [a7, R.2.2.2.1]; rfl
        · rw [a8, R.2.2.2.2.1]; rfl
        · rw [a9, R.2.2.2.2.2]; rfl
      obtain ⟨M2, b1, b2, b3, b4, b5, b6, b7⟩ := ih f M1 _ _ (by omega) (by omega) a3 RS1 w1 w3
      refine ⟨M2, ?_, b2, b3, b4, FrS.trans ⟨a4, a10, a11⟩ b5, b6, b7⟩
      rw [e1]
      unfold g_X12_swaps_64B
      rw [R.2.1, if_neg (fun q => c (Or.inl q)), hae, if_pos (by rfl), a1]
      simp only [bindS]
      exact b1
def ae0 (N : Nat → Int) (p : Nat) (side e : Int) : Bool := if side = 0 then decide (xz N p < e) else decide (e ≤ xz N p)
/-- a swap of an amount -/
def swap (N T : Nat → Int) (L : List (Nat → Int)) (p : Nat) (side amount e o : Int) : SW := swp T p side e o 50 (ae0 N p side e) (N, L, amount, 0, 0, 0, 0)
theorem R_swaps {N : Nat → Int} {L : List (Nat → Int)} (R : RepR M N T L th pe po) (K : KON M) (W : WF N T L th pe po) {p : Nat} {side e o amount : Int} (hb : Pbg p po side e o) (ha : 0 < amount ∧ amount ≤ 10000000000) : ∃ M', g_X12_swaps p side amount e o M = some ((), M') ∧ RS M' T th pe po (swap N T L p side amount e o) ∧ WF (swap N T L p side amount e o).1 T (swap N T L p side amount e o).2.1 th pe po ∧ KON M' ∧ FrS M M' ∧ (swap N T L p side amount e o).2.1.length ≤ 12 ∧ (0 ≤ (swap N T L p side amount e o).2.2.1 ∧ (swap N T L p side amount e o).2.2.1 ≤ 10000000000) := by
  obtain ⟨h1, h2, h3, h4, h5⟩ := hb
  have hrz : Rzz (xr N p) (xz N p) := (W.2.1 p h1 h2).2
  have hz := hrz.1
  have hPae : Pae p side e (ae0 N p side e) (N, L, amount, 0, 0, 0, 0) := by
    refine ⟨fun q => ?_, by show 0 ≤ amount ∧ amount ≤ 10000000000; omega⟩
    unfold ae0 at q
    show if side = 0 then e ≤ xz N p else xz N p < e
    rcases h3 with rfl | rfl
    · rw [if_pos rfl] at q ⊢
      have := of_decide_eq_false q
      omega
    · rw [if_neg (by omega)] at q ⊢
      have := of_decide_eq_false q
      omega
  have hm : swm p side e (ae0 N p side e) (N, L, amount, 0, 0, 0, 0) ≤ ((50 : Nat) : Int) := by
    unfold swm
    split
    · omega
    · split
      · show xz N p - e + 1 ≤ _; omega
      · show e - xz N p ≤ _; omega
  generalize eM1 : uI (uL (uL (uL (uL M 20 29 amount) 20 30 0) 20 31 0) 20 32 0) 20 33 0 = M1
  have R1 : RepR M1 N T L th pe po := by rw [← eM1]; exact ((((R.scL 29 _).scL 30 _).scL 31 _).scL 32 _).scI (by omega) _
  have K1 : KON M1 := by rw [← eM1]; exact ((((K.scL (by omega) _).scL (by omega) _).scL (by omega) _).scL (by omega) _).scI 33 _
  have z1 : ∀ k, zL M1 20 k = if k = 32 then 0 else if k = 31 then 0 else if k = 30 then 0 else if k = 29 then amount else zL M 20 k := by
    intro k
    rw [← eM1, zL_uI, zL_uL, zL_uL, zL_uL, zL_uL]
    simp only [true_and]
  have i1 : ∀ k, zI M1 20 k = if k = 33 then 0 else zI M 20 k := by
    intro k
    rw [← eM1, zI_uI, zI_uL, zI_uL, zI_uL, zI_uL]
    simp only [true_and]
  have F1 : FrS M M1 := by
    refine ⟨fun x y1 y2 => ?_, fun k hk => by rw [i1, if_neg hk], fun k hk => by rw [z1, if_neg (by omega), if_neg (by omega), if_neg (by omega), if_neg (by omega)]⟩
    rw [← eM1]
    exact ((((sameH_uL y1).trans (sameH_uL y1)).trans (sameH_uL y1)).trans (sameH_uL y1)).trans (sameH_uI y1)
  have RS1 : RS M1 T th pe po (N, L, amount, 0, 0, 0, 0) := ⟨R1, by rw [z1, if_neg (by omega), if_neg (by omega), if_neg (by omega), if_pos rfl], by rw [z1, if_neg (by omega), if_neg (by omega), if_pos rfl], by rw [z1, if_neg (by omega), if_pos rfl], by rw [z1, if_pos rfl], by rw [i1, if_pos rfl]⟩
  obtain ⟨M2, b1, b2, b3, b4, b5, b6, b7⟩ := R_swaps_loop (T := T) (th := th) (pe := pe) ⟨h1, h2, h3, h4, h5⟩ 50 100000 M1 (ae0 N p side e) (N, L, amount, 0, 0, 0, 0) hm (by omega) K1 RS1 W hPae
  refine ⟨M2, ?_, b2, b3, b4, F1.trans b5, b6, b7⟩
  unfold g_X12_swaps g_X12_swaps_15 g_X12_swaps_62
  rw [eM1, R_zone R1 h1 hz]
  simp only [bindS]
  rcases h3 with rfl | rfl
  · have ha0 : ae0 N p 0 e = decide (xz N p < e) := if_pos rfl
    rw [ha0] at b1
    rw [if_pos rfl]
    by_cases c : e ≤ xz N p
    · have c' : e ≤ N (22 + 23 * p + 1) := c
      rw [if_pos c']
      have hd : decide (xz N p < e) = false := decide_eq_false (by omega)
      rw [hd] at b1
      exact b1
    · have c' : ¬ e ≤ N (22 + 23 * p + 1) := c
      rw [if_neg c']
      have hd : decide (xz N p < e) = true := decide_eq_true (by omega)
      rw [hd] at b1
      exact b1
  · have ha0 : ae0 N p 1 e = decide (e ≤ xz N p) := if_neg (by omega)
    rw [ha0] at b1
    rw [if_neg (by omega)]
    by_cases c : xz N p < e
    · have c' : N (22 + 23 * p + 1) < e := c
      rw [if_pos c']
      have hd : decide (e ≤ xz N p) = false := decide_eq_false (by omega)
      rw [hd] at b1
      exact b1
    · have c' : ¬ N (22 + 23 * p + 1) < e := c
      rw [if_neg c']
      have hd : decide (e ≤ xz N p) = true := decide_eq_true (by omega)
      rw [hd] at b1
      exact b1
end SWR
