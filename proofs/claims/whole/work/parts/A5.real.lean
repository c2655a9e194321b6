/-! a swap done, the developers' half: what the pool holds and the crossings are written at the end alone -/
/-- what is still to be written -/
def dlt (p k : Nat) (paid gave cr : Int) (j : Nat) : Int := (if j = hc p k then paid else 0) - (if j = hc p (1 - k) then gave else 0) + (if j = 1 then cr else 0)
def fix (j : Nat) : Prop := j = 0 ∨ ∃ q w, j = 22 + 23 * q + w ∧ w < 23 ∧ (w < 2 ∨ 6 ≤ w)
def Pd (d : Nat → Int) (Nc Ns : Nat → Int) : Prop := (∀ j, (Ns j - Nc j - d j) % 4294967296 = 0) ∧ (∀ j, fix j → Ns j = Nc j)
theorem Pd.rz {d : Nat → Int} {Nc Ns : Nat → Int} (h : Pd d Nc Ns) (p : Nat) : Ns (22 + 23 * p) = Nc (22 + 23 * p) ∧ Ns (22 + 23 * p + 1) = Nc (22 + 23 * p + 1) := ⟨h.2 _ (Or.inr ⟨p, 0, by omega, by omega, by omega⟩), h.2 _ (Or.inr ⟨p, 1, by omega, by omega, by omega⟩)⟩
section RL
variable {M : MZ} {b : Nat} {kk : Bool} {T : Nat → Int} {L : List (Nat → Int)} {th pe po : Int} {Nc Ns : Nat → Int} {d : Nat → Int}
theorem WF.pd (h : Pd d Nc Ns) (W : WF Ns T L th pe po) : WF Nc T L th pe po := by
  refine ⟨W.1, fun p hp hq => ⟨(W.2.1 p hp hq).1, ?_⟩, W.2.2⟩
  have := (W.2.1 p hp hq).2
  unfold Rz at *
  rw [(h.rz p).1, (h.rz p).2] at this
  exact this
theorem fix_hc {p k : Nat} (hk : k < 2) : ¬ fix (hc p k) := by
  rintro (h | ⟨q, w, h, h1, h2⟩)
  · unfold hc at h; omega
  · unfold hc at h; omega
theorem fix_ho {p k : Nat} (hk : k < 2) : ¬ fix (hoC p k) := by
  rintro (h | ⟨q, w, h, h1, h2⟩)
  · unfold hoC at h; omega
  · unfold hoC at h; omega
theorem fix_1 : ¬ fix 1 := by
  rintro (h | ⟨q, w, h, h1, h2⟩)
  · omega
  · omega
theorem fix_uc {p k per : Nat} (hper : per < 4) (ht : 0 ≤ T (5 * p + k) ∧ T (5 * p + k) < 5) : ¬ fix (uc T p k per) := by
  rintro (h | ⟨q, w, h, h1, h2⟩)
  · unfold uc at h; omega
  · unfold uc at h; omega
theorem pd_gOut (h : Pd d Nc Ns) {p k per : Nat} (hk : k < 2) (hper : per < 4) (ht : 0 ≤ T (5 * p + k) ∧ T (5 * p + k) < 5) (v : Int) : Pd d (gOut Nc T p k per v) (gOut Ns T p k per v) := by
  refine ⟨fun j => ?_, fun j hj => ?_⟩
  · have := h.1 j
    unfold gOut
    split
    · have a1 := w64_d (Ns j - v)
      have a2 := w64_d (Nc j - v)
      omega
    · split
      · have a1 := w64_d (Ns j + v)
        have a2 := w64_d (Nc j + v)
        omega
      · exact this
  · have := h.2 j hj
    have n1 : j ≠ hc p k := fun q => fix_hc hk (q ▸ hj)
    have n2 : j ≠ uc T p k per := fun q => fix_uc hper ht (q ▸ hj)
    rw [gOut_ne n1 n2, gOut_ne n1 n2]
    exact this
theorem Pd.gOut (h : Pd d Nc Ns) {p k per : Nat} (hk : k < 2) (hper : per < 4) (ht : 0 ≤ T (5 * p + k) ∧ T (5 * p + k) < 5) (v : Int) : Pd d (gOut Nc T p k per v) (gOut Ns T p k per v) := pd_gOut h hk hper ht v
theorem Pd.gO2 (h : Pd d Nc Ns) {p per : Nat} (hper : per < 4) (ht : T2 T p) (a c : Int) : Pd d (gO2 Nc T p per a c) (gO2 Ns T p per a c) := (h.gOut (by omega) hper ht.1 a).gOut (by omega) hper ht.2.1 c
theorem pd_drN (h : Pd d Nc Ns) {p : Nat} (ht : T2 T p) (side tick r z : Int) (hL : Lok pe po L) (hpe : pe ≤ 4) : Pd d (drN T p side tick r z Nc L) (drN T p side tick r z Ns L) := by
  induction L with
  | nil => exact h
  | cons s l ih =>
    have hs := hL s (List.mem_cons_self ..)
    have h' := ih (fun x hx => hL x (List.mem_cons_of_mem _ hx))
    show Pd d (drS T p side tick r z s (drN T p side tick r z Nc l)) (drS T p side tick r z s (drN T p side tick r z Ns l))
    unfold drS
    split
    · exact h'.gO2 (by have := hs.1; omega) ht _ _
    · exact h'
theorem Pd.drN (h : Pd d Nc Ns) {p : Nat} (ht : T2 T p) (side tick r z : Int) (hL : Lok pe po L) (hpe : pe ≤ 4) : Pd d (drN T p side tick r z Nc L) (drN T p side tick r z Ns L) := pd_drN h ht side tick r z hL hpe
theorem cut_0 (c : Int) : cutF 0 c = 0 := by
  unfold cutF
  rw [Int.zero_mul]
  rfl
theorem Pd.ho (h : Pd d Nc Ns) {p k : Nat} (hk : k < 2) (fee : Int) : Pd d (shN Nc T p k fee) (shN Ns T p k fee) := by
  refine ⟨fun j => ?_, fun j hj => ?_⟩
  · unfold shN ud
    have := h.1 j
    split
    · rename_i c
      subst c
      have a1 := w64_d (Ns (hoC p k) + cutF fee (T (5 * p + 3)))
      have a2 := w64_d (Nc (hoC p k) + cutF fee (T (5 * p + 3)))
      omega
    · exact this
  · have hne : j ≠ hoC p k := fun q => fix_ho hk (q ▸ hj)
    unfold shN
    rw [ud_ne hne, ud_ne hne]
    exact h.2 j hj
theorem Pd.ho0 (h : Pd d Nc Ns) {p k : Nat} (hk : k < 2) : Pd d Nc (shN Ns T p k 0) := by
  refine ⟨fun j => ?_, fun j hj => ?_⟩
  · unfold shN ud
    have := h.1 j
    split
    · rename_i c
      subst c
      rw [cut_0]
      have a1 := w64_d (Ns (hoC p k) + 0)
      omega
    · exact this
  · have hne : j ≠ hoC p k := fun q => fix_ho hk (q ▸ hj)
    unfold shN
    rw [ud_ne hne]
    exact h.2 j hj
theorem fee_l {o side l r a f left : Int} (hP : Pst o side l r a f left) (h : 0 < sFe o side l r a f left) : 1 ≤ l := by
  rcases (show l = 0 ∨ 1 ≤ l by have := hP.2.2.1; omega) with c | c
  · exfalso
    subst c
    have hre : sRe o side 0 r a f left = true := by
      cases hq : sRe o side 0 r a f left
      · have := (sRe_l hP hq).1; omega
      · rfl
    have hm : sMost o side 0 r a = 0 := by
      obtain ⟨ho, hs, hl, hr, ha, h0, h1, hf, hle⟩ := hP
      unfold sMost
      have p1 : 0 < a * r := Int.mul_pos (by omega) (by omega)
      have p2 : 0 < r * a := Int.mul_pos (by omega) (by omega)
      rw [fst_0 _ _ _ p1, fst_0 _ _ _ p2, snd_0, snd_0]
      split <;> split <;> rfl
    have hc : sCo o side 0 r a f left = 0 := by
      unfold sCo
      split
      · exact hm
      · have hrt := sRt_r hP
        obtain ⟨ho, hs, hl, hr, ha, h0, h1, hf, hle⟩ := hP
        split
        · rename_i c
          have q := hrt.1 c
          exact fst_0 _ _ _ (Int.mul_pos (by omega) (by omega))
        · exact snd_0 _ _ _
    unfold sFe at h
    rw [if_neg (fun q => q.2 hre), hc, Int.zero_mul] at h
    have hf := hP.2.2.2.2.2.2.2.1
    have : cdiv 0 (1000 - f) = 0 := by
      unfold cdiv
      exact Int.ediv_eq_zero_of_lt (by omega) (by omega)
    omega
  · exact c
/-- what comes in, in earnest: the fee is shared -/
theorem K_takeIn1 (hb : bOK b) (R : Rep kk M b Nc T L th pe po) (h : Pd d Nc Ns) (W : WF Ns T L th pe po) {p : Nat} (hp : p < 5) (hq : (p : Int) < po) {side co fe paid fees : Int} (hs : side = 0 ∨ side = 1) (hfe : 0 ≤ fe) (hl : 0 < fe → 1 ≤ dep L p (Ns (22 + 23 * p + 1))) (m0 : zR M 4 0 = b) (m2 : zI M 4 2 = p) (m3 : zI M 4 3 = side) (m4 : zI M 4 4 = 1) (m12 : zL M 4 12 = paid) (m13 : zL M 4 13 = fees) : ∃ (M' : MZ) (Nc' : Nat → Int), g_X10_takeIn co fe M = some ((), M') ∧ Rep kk M' b Nc' T (shR T L p (Ns (22 + 23 * p + 1)) (xk side) fe) th pe po ∧ Pd d Nc' (shN Ns T p (xk side) fe) ∧ (∀ k, zI M' 4 k = zI M 4 k) ∧ (∀ k, zR M' 4 k = zR M 4 k) ∧ (∀ k, zL M' 4 k = if k = 13 then w64 (fees + fe) else if k = 12 then w64 (paid + w64 (co + fe)) else zL M 4 k) ∧ (∀ x, x ≠ 4 → ¬ (b ≤ x ∧ x < b + 65) → sameH M M' x) := by
  obtain ⟨hk, hk2⟩ := xk_r hs
  have hb4 : ¬ (b ≤ 4 ∧ 4 < b + 65) := by rcases hb with rfl | rfl <;> omega
  have hrz : Rzz (Ns (22 + 23 * p)) (Ns (22 + 23 * p + 1)) := (W.2.1 p hp hq).2
  have hz := hrz.1
  have e1 : zL (uL M 4 12 (w64 (zL M 4 12 + w64 (co + fe)))) 4 13 = fees := by rw [zL_uL, if_neg (by omega)]; exact m13
  generalize eMB : uL (uL M 4 12 (w64 (paid + w64 (co + fe)))) 4 13 (w64 (fees + fe)) = MB
  have fB : ∀ x, x ≠ 4 → sameH M MB x := fun x hx => by rw [← eMB]; exact (sameH_uL hx).trans (sameH_uL hx)
  have RB : Rep kk MB b Nc T L th pe po := R.not4 hb fB
  have iB : ∀ k, zI MB 4 k = zI M 4 k := fun k => by rw [← eMB]; rfl
  have rB : ∀ k, zR MB 4 k = zR M 4 k := fun k => by rw [← eMB]; rfl
  have lB : ∀ k, zL MB 4 k = if k = 13 then w64 (fees + fe) else if k = 12 then w64 (paid + w64 (co + fe)) else zL M 4 k := fun k => by
    rw [← eMB, zL_uL, zL_uL]; simp only [true_and]
  have hst : g_X10_takeIn co fe M = (if fe ≤ 0 then some ((), MB) else ((g_X2_share b p side fe MB).bind fun q48 => some ((), q48.2))) := by
    unfold g_X10_takeIn g_X10_takeIn_51
    rw [e1, m12, eMB, iB 4, m4, if_neg (show ¬ (1 : Int) = 0 by omega), rB 0, m0, if_pos (kdb hb), iB 2, m2, iB 3, m3]
  rw [hst]
  by_cases c : fe ≤ 0
  · have hf0 : fe = 0 := by omega
    subst hf0
    rw [if_pos c]
    refine ⟨MB, Nc, rfl, ?_, h.ho0 hk2, iB, rB, lB, fun x hx _ => fB x hx⟩
    refine RB.cg (shR_len ..) (fun i hi w hw => ?_)
    unfold shR
    split
    · rfl
    · have hg : shG T L p (Ns (22 + 23 * p + 1)) 0 = 0 := by
        unfold shG gnF
        rw [cut_0]
        have : w64 (w64 (0 - 0) * 1048576) = 0 := rfl
        rw [this, Int.zero_tdiv]
        rfl
      rw [hg, shL_getD _ _ _ _ _ hi]
      unfold shS
      split
      · by_cases cw : w = 6 + xk side
        · subst cw
          rw [ud_at, Int.add_zero]
          exact (W.2.2 _ (getD_mem hi)).2.2.2.2.2 _
        · rw [ud_ne cw]
      · rfl
  · rw [if_neg c]
    have hzc : w32 (Nc (22 + 23 * p + 1)) = Ns (22 + 23 * p + 1) := by rw [← (h.rz p).2, w32_id (by omega) (by omega)]
    obtain ⟨M2, a1, a2, a3, a4⟩ := K_share hb RB W.2.2 hp hk2 hq hzc (fee := fe) (hl (by omega))
    rw [hk] at a1
    rw [a1]
    simp only [bindS]
    have s4 := a3 4 hb4
    exact ⟨M2, shN Nc T p (xk side) fe, rfl, a2, h.ho hk2 fe, fun k => by rw [(s4 k).1, iB], fun k => by rw [(s4 k).2.2, rB], fun k => by rw [(s4 k).2.1, lB], fun x hx hx2 => (fB x hx).trans (a3 x hx2)⟩
end RL
