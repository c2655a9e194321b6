/-! a pool is read: both side by side -/
def plo (j : Nat) : Int := if j < 4 then 0 else 1
def phi (th : Int) (j : Nat) : Int := if j < 2 then th - 1 else if j = 2 then 99 else if j = 3 then 100 else if j = 4 then 10 else 9999
section MP
variable {n : Nat} {B : Nat → Int}
def AC (n : Nat) (B : Nat → Int) (Mc0 Mr0 : MZ) (h po : Nat) (th : Int) (j : Nat) (Mcx Mrx : MZ) : Prop := (∃ i, SR n B i Mcx Mrx) ∧ CM Mc0 Mcx ∧ RM Mr0 Mrx ∧ (∀ x k, x ≠ 2 → x ≠ h → zI Mcx x k = zI Mc0 x k) ∧ (∀ k, k ≠ 9 → k ≠ 10 → k ≠ 11 → zI Mrx 20 k = zI Mr0 20 k) ∧ (∀ k, k < 7 * po → zI Mrx 26 k = zI Mr0 26 k) ∧ (∀ k, zI Mrx 27 k = zI Mr0 27 k) ∧ (∀ i, i < j → (i < 5 → zI Mcx h i = zI Mrx 26 (7 * po + i)) ∧ plo i ≤ zI Mrx 26 (7 * po + i) ∧ zI Mrx 26 (7 * po + i) ≤ phi th i ∧ (i = 1 → zI Mrx 26 (7 * po + 1) ≠ zI Mrx 26 (7 * po)))
/-- the reference at the k-th number -/
theorem R_pk {po j f : Nat} {th : Int} {M : MZ} (hj : j < 7) (h24 : zI M 20 24 = th) (hth : 2 ≤ th ∧ th ≤ 5) : g_X12_readsPool_21 (f + 1) j M = ((g_X12_next M).bind fun q => g_X12_readsPool_98 (g_X12_readsPool_21 f) j (plo j) (phi th j) (zI q.2 20 9) q.2) := by
  have e : g_X12_readsPool_21 (f + 1) j M = g_X12_readsPool_21B (g_X12_readsPool_21 f) j M := rfl
  rw [e]
  unfold g_X12_readsPool_21B g_X12_readsPool_37 g_X12_readsPool_85 plo phi
  rw [if_neg (by omega), h24, w32_id (x := th - 1) (by omega) (by omega)]
  rcases (show j = 0 ∨ j = 1 ∨ j = 2 ∨ j = 3 ∨ j = 4 ∨ j = 5 ∨ j = 6 by omega) with rfl | rfl | rfl | rfl | rfl | rfl | rfl <;> rfl
theorem R_p142 {po j f : Nat} {M : MZ} (hj : j < 7) (h26 : zI M 20 26 = po) (hpo : po < 5) : g_X12_readsPool_142 (g_X12_readsPool_21 f) j M = g_X12_readsPool_21 f ((j + 1 : Nat) : Int) (uI M 26 (7 * po + j) (zI M 20 11)) := by
  unfold g_X12_readsPool_142
  rw [h26, w32_id (x := 7 * (po : Int)) (by omega) (by omega), w32_id (x := 7 * (po : Int) + j) (by omega) (by omega), w32_id (x := (j : Int) + 1) (by omega) (by omega), if_pos (by omega), show (7 * (po : Int) + j).toNat = 7 * po + j by omega]
  rfl
theorem AC.next {Mc0 Mr0 Mcx Mrx Mc' Mr' : MZ} {h po j : Nat} {th : Int} (hA : AC n B Mc0 Mr0 h po th j Mcx Mrx) (hh : 147 ≤ h ∧ h < 172) (cf : CF Mcx Mc') (rf : RF Mrx Mr') (hS : ∃ i, SR n B i Mc' Mr') {v : Int} (hv : zI Mc' 2 2 = v) (hl : plo j ≤ v) (hu : v ≤ phi th j) (h1 : j = 1 → v ≠ zI Mrx 26 (7 * po)) : AC n B Mc0 Mr0 h po th (j + 1) (if j < 5 then uI Mc' h j v else Mc') (uI Mr' 26 (7 * po + j) v) := by
  obtain ⟨_, a2, a3, a4, a5, a6, a7, a8⟩ := hA
  obtain ⟨i, hS⟩ := hS
  have cm : CM Mc' (if j < 5 then uI Mc' h j v else Mc') := by
    split
    · exact CM_u (by omega)
    · exact CF.rfl.cm
  have rm : RM Mr' (uI Mr' 26 (7 * po + j) v) := RM_u (by omega)
  have e5 : zI (if j < 5 then uI Mc' h j v else Mc') 2 5 = zI Mc' 2 5 := by
    split
    · rw [zI_uI, if_neg (by omega)]
    · rfl
  have ex : ∀ x k, x ≠ h → zI (if j < 5 then uI Mc' h j v else Mc') x k = zI Mc' x k := fun x k hx => by
    split
    · rw [zI_uI, if_neg (fun q => hx q.1)]
    · rfl
  have s26 := rf.1 26 (by omega)
  have sh := cf.1 h (by omega)
  have r26 : ∀ k, k ≠ 7 * po + j → zI (uI Mr' 26 (7 * po + j) v) 26 k = zI Mrx 26 k := fun k hk => by rw [zI_uI, if_neg (fun q => hk q.2)]; exact (s26 k).1
  refine ⟨⟨i, hS.cm cm rm e5 (by rw [zI_uI, if_neg (by omega)])⟩, (a2.trans cf.cm).trans cm, (a3.trans rf.rm).trans rm, fun x k h1 h2 => ?_, fun k k1 k2 k3 => ?_, fun k hk => ?_, fun k => ?_, fun i hi => ?_⟩
  · rw [ex x k h2, (cf.1 x h1 k).1]
    exact a4 x k h1 h2
  · rw [zI_uI, if_neg (by omega), rf.2.1 k k1 k2 k3]
    exact a5 k k1 k2 k3
  · rw [r26 k (by omega)]
    exact a6 k hk
  · rw [zI_uI, if_neg (by omega), (rf.1 27 (by omega) k).1]
    exact a7 k
  · by_cases e : i = j
    · subst e
      rw [zI_at]
      refine ⟨fun q => ?_, hl, hu, fun q => ?_⟩
      · rw [if_pos q, zI_at]
      · subst q
        rw [zI_at, r26 (7 * po) (by omega)]
        exact h1 rfl
    · obtain ⟨b1, b2, b3, b4⟩ := a8 i (by omega)
      rw [r26 _ (by omega)]
      refine ⟨fun q => ?_, b2, b3, fun q => ?_⟩
      · rw [← b1 q, ← (sh i).1]
        split
        · rw [zI_uI, if_neg (fun q => e q.2)]
        · rfl
      · subst q
        rw [r26 (7 * po + 1) (by omega), r26 (7 * po) (by omega)]
        exact b4 rfl
theorem pool_step (b : BO n B) {Mc0 Mr0 Mcx Mrx : MZ} {h po j : Nat} {th : Int} (hA : AC n B Mc0 Mr0 h po th j Mcx Mrx) (hh : 147 ≤ h ∧ h < 172) (hj : j < 7) (hj1 : j ≠ 1) (h24 : zI Mr0 20 24 = th) (h26 : zI Mr0 20 26 = po) (hth : 2 ≤ th ∧ th ≤ 5) (hpo : po < 5) : ∃ (fl : Int) (Mc' Mr' : MZ), g_X9_readNumber (plo j) (phi th j) Mcx = some (fl, Mc') ∧ (∀ f, g_X12_readsPool_21 (f + 1) j Mrx = if fl = 0 then some (0, Mr') else g_X12_readsPool_21 f ((j + 1 : Nat) : Int) (uI Mr' 26 (7 * po + j) (zI Mc' 2 2))) ∧ CM Mc0 Mc' ∧ RM Mr0 Mr' ∧ (∀ k, zI Mr' 26 k = zI Mrx 26 k) ∧ ((fl = 0 ∧ zI Mr' 20 10 = zI Mc' 2 1) ∨ (fl = 1 ∧ AC n B Mc0 Mr0 h po th (j + 1) (if j < 5 then uI Mc' h j (zI Mc' 2 2) else Mc') (uI Mr' 26 (7 * po + j) (zI Mc' 2 2)))) := by
  have hA' := hA
  obtain ⟨⟨i, hS⟩, a2, a3, a4, a5, a6, a7, a8⟩ := hA'
  obtain ⟨s, fl, Mc1, Mr1, Mc', Mr', b1, b2, b3, b4, b5, b6, b7, b8, b9, b10, b11⟩ := sim_num2 b hS (plo j) (phi th j)
  have e24 : zI Mrx 20 24 = th := by rw [a5 24 (by omega) (by omega) (by omega)]; exact h24
  have e26 : zI Mr' 20 26 = po := by rw [b10.2.1 26 (by omega) (by omega) (by omega), a5 26 (by omega) (by omega) (by omega)]; exact h26
  refine ⟨fl, Mc', Mr', b5, fun f => ?_, a2.trans b9.cm, a3.trans b10.rm, fun k => (b10.1 26 (by omega) k).1, ?_⟩
  · rw [R_pk (po := po) hj e24 hth, b2]
    simp only [bindS]
    unfold g_X12_readsPool_98
    rw [b7]
    simp only [bindS]
    rcases b11 with ⟨rfl, _, ev, _, _⟩ | ⟨rfl, _⟩
    · rw [if_neg (by omega), if_neg (by omega), if_neg (show ¬ (1 : Int) = 0 by omega), R_p142 hj e26 hpo, ev]
    · rw [if_pos rfl, if_pos rfl]
  · rcases b11 with ⟨rfl, hS', ev, vl, vh⟩ | ⟨rfl, ef⟩
    · exact Or.inr ⟨rfl, hA.next hh b9 b10 hS' rfl vl vh (fun q => absurd q hj1)⟩
    · exact Or.inl ⟨rfl, ef⟩
theorem K_but {M M1 M' : MZ} {v fl hi oth : Int} {s : Nat} (h1 : g_X9_peek M = some (v, M1)) (h2 : g_X9_readNumber 0 hi M1 = some (fl, M')) (h5 : zI M1 2 5 = s) : g_X9_readNumberBut hi oth M = (if fl = 0 then some (0, M') else if zI M' 2 2 = oth then some (0, uI M' 2 1 (fz 1 s)) else some (1, M')) := by
  unfold g_X9_readNumberBut g_X9_readNumberBut_10 g_X9_readNumberBut_36 g_X9_readNumberBut_40 g_X9_readNumberBut_41 g_X9_blame
  rw [h1]
  simp only [bindS]
  rw [h2]
  simp only [bindS]
  rw [h5]
  unfold fz
  clear h1 h2 h5
  repeat' split
  all_goals first | rfl | (exfalso; omega) | (exfalso; simp_all; done)
theorem pool_step1 (b : BO n B) {Mc0 Mr0 Mcx Mrx : MZ} {h po : Nat} {th : Int} (hA : AC n B Mc0 Mr0 h po th 1 Mcx Mrx) (hh : 147 ≤ h ∧ h < 172) (h24 : zI Mr0 20 24 = th) (h26 : zI Mr0 20 26 = po) (hth : 2 ≤ th ∧ th ≤ 5) (hpo : po < 5) : ∃ (fl : Int) (Mc' Mr' : MZ), g_X9_readNumberBut (th - 1) (zI Mcx h 0) Mcx = some (fl, Mc') ∧ (∀ f, g_X12_readsPool_21 (f + 1) 1 Mrx = if fl = 0 then some (0, Mr') else g_X12_readsPool_21 f 2 (uI Mr' 26 (7 * po + 1) (zI Mc' 2 2))) ∧ CM Mc0 Mc' ∧ RM Mr0 Mr' ∧ ((fl = 0 ∧ zI Mr' 20 10 = zI Mc' 2 1) ∨ (fl = 1 ∧ AC n B Mc0 Mr0 h po th 2 (uI Mc' h 1 (zI Mc' 2 2)) (uI Mr' 26 (7 * po + 1) (zI Mc' 2 2)))) := by
  have hA' := hA
  obtain ⟨⟨i, hS⟩, a2, a3, a4, a5, a6, a7, a8⟩ := hA'
  obtain ⟨s, fl, Mc1, Mr1, Mc', Mr', b1, b2, b3, b4, b5, b6, b7, b8, b9, b10, b11⟩ := sim_num2 b hS 0 (th - 1)
  have e24 : zI Mrx 20 24 = th := by rw [a5 24 (by omega) (by omega) (by omega)]; exact h24
  have e26 : zI Mr' 20 26 = po := by rw [b10.2.1 26 (by omega) (by omega) (by omega), a5 26 (by omega) (by omega) (by omega)]; exact h26
  have e0 : zI Mcx h 0 = zI Mrx 26 (7 * po) := (a8 0 (by omega)).1 (by omega)
  have er0 : zI Mr' 26 (7 * po) = zI Mrx 26 (7 * po) := (b10.1 26 (by omega) _).1
  have ei : w32 (7 * (po : Int)) = ((7 * po : Nat) : Int) := by rw [w32_id (by omega) (by omega)]; omega
  have hi35 : 0 ≤ ((7 * po : Nat) : Int) ∧ ((7 * po : Nat) : Int) < ((35 : Nat) : Int) := by omega
  have cls : g_X9_readNumberBut (th - 1) (zI Mcx h 0) Mcx = (if fl = 0 then some (0, Mc') else if zI Mc' 2 2 = zI Mrx 26 (7 * po) then some (0, uI Mc' 2 1 (fz 1 s)) else some (1, Mc')) := by
    rw [K_but b1 b6 b3, e0]
  have ref : ∀ f, g_X12_readsPool_21 (f + 1) 1 Mrx = (if fl = 0 then some (0, Mr') else if zI Mr' 20 11 = zI Mrx 26 (7 * po) then some (0, uI Mr' 20 10 (fz 1 s)) else g_X12_readsPool_21 f 2 (uI Mr' 26 (7 * po + 1) (zI Mr' 20 11))) := fun f => by
    have e1 : g_X12_readsPool_21 (f + 1) ((1 : Nat) : Int) Mrx = _ := R_pk (po := po) (j := 1) (f := f) (by omega) e24 hth
    have e2 := R_p142 (po := po) (j := 1) (f := f) (M := Mr') (by omega) e26 hpo
    have p1 : plo 1 = 0 := rfl
    have p2 : phi th 1 = th - 1 := rfl
    have c1 : ((1 : Nat) : Int) = 1 := rfl
    have c2 : ((1 + 1 : Nat) : Int) = 2 := rfl
    rw [c1, p1, p2, b2] at e1
    rw [c1, c2] at e2
    rw [e1]
    simp only [bindS]
    unfold g_X12_readsPool_98
    rw [b7]
    simp only [bindS]
    rw [e2, e26, ei, if_pos hi35, Int.toNat_natCast, er0, R_failb, b4]
    rw [if_pos trivial]
    rfl
  rcases b11 with ⟨rfl, hS', ev, vl, vh⟩ | ⟨rfl, ef⟩
  · rw [if_neg (by omega)] at cls
    by_cases c : zI Mc' 2 2 = zI Mrx 26 (7 * po)
    · rw [if_pos c] at cls
      refine ⟨0, _, uI Mr' 20 10 (fz 1 s), cls, fun f => ?_, (a2.trans b9.cm).trans (CF_u (by omega)).cm, (a3.trans b10.rm).trans (RF_u (by omega)).rm, Or.inl ⟨rfl, by rw [zI_at, zI_at]⟩⟩
      rw [ref f, if_neg (by omega), if_pos (by rw [ev]; exact c), if_pos rfl]
    · rw [if_neg c] at cls
      refine ⟨1, _, Mr', cls, fun f => ?_, a2.trans b9.cm, a3.trans b10.rm, Or.inr ⟨rfl, hA.next hh b9 b10 hS' rfl vl vh (fun _ => c)⟩⟩
      rw [ref f, if_neg (by omega), if_neg (by rw [ev]; exact c), if_neg (by omega), ev]
  · rw [if_pos rfl] at cls
    refine ⟨0, _, Mr', cls, fun f => ?_, a2.trans b9.cm, a3.trans b10.rm, Or.inl ⟨rfl, ef⟩⟩
    rw [ref f, if_pos rfl, if_pos rfl]
theorem K_newPool {b : Nat} (hb : bOK b) {po : Nat} (hp : po < 5) {M : MZ} (h : zI M b 2 = po) : g_X2_newPool b M = some (b + 2 + 2 + 5 * po, uI M b 2 ((po + 1 : Nat) : Int)) := by
  unfold g_X2_newPool
  have e : w32 ((po : Int) + 1) = ((po + 1 : Nat) : Int) := by rw [w32_id (by omega) (by omega)]; rfl
  rw [if_pos (kdb hb), h, if_pos (by omega), e, zI_at, w32_id (x := ((po + 1 : Nat) : Int) - 1) (by omega) (by omega), if_pos (by omega), show (((po + 1 : Nat) : Int) - 1).toNat = po by omega]
end MP
