/-! a call with up to sixteen words below its arguments -/
section ZWIDE
variable {X : MC} {Γ : GG} {cc : ByteArray} {nL : Nat} {own : String} {fr lo : Nat} {Q : State → Prop} {S : Mem} {pc : Nat} {lv : List (Nat × AV)} {rest : List AV}
theorem mon_room {m : MethodId} {pc : Nat} {ls : Array Slot} {st st0 : List Value} {n : Nat} (h : (st.map fun v => v.category).sum ≤ n) : 2 * (F0 m pc ls st0).monitorRoom + (st.map fun v => v.category).sum ≤ n := by
  show 2 * 0 + _ ≤ n
  omega
theorem z_callW1 (C : CX X Γ cc nL own fr lo) {h ci n idx : Nat} {y : MethodName} {b : ByteArray} {nl : Nat} {rt : Option FieldType} {q : vw_C} {f1 l1 : Nat} {v : AV} {S1 : Mem} {st : List AV} (As : List AV) (hk : kd h = (ci, n)) (hci : ci < 12) (hq : vwCl[ci]? = some q) (hqy : q.1 = y.cls) (ca : CalV y b nl rt As.length) (hw : Cond.methodLink own idx y ∈ lw_gt) (hrm : f1 + 1 ≤ fr ∧ 16 + (nl + 11) + l1 ≤ lo) (hst : (rest.map cat).sum ≤ 16) (hd : decode cc pc = .ok (.invokevirtual idx, 3)) (hM : MM X.2.1 Γ y b nl rt f1 l1 (aR h :: As) S (some v) S1) (es : st = As.reverse ++ aR h :: rest) (k9 : ZZ X Γ nL Q S1 (pc + 3) lv (v :: rest)) : ZZ X Γ nL Q S pc lv st := by
  subst es
  intro H locs ls hP hS hl
  have hk9 : (kd h).1 < 19 := k19 hk (Nat.lt_trans hci (by decide))
  have hts := C.2.2.2.2.1
  obtain ⟨⟨c1, c2, c3⟩, c4, c5⟩ := ca
  have e : ((aR h :: As).map (tv Γ)).toArray = (Value.ref (Γ.2.1 h) :: As.map (tv Γ)).toArray := by show (rv Γ h :: As.map (tv Γ)).toArray = _; rw [rv_pos (kd_in hk9).1]
  refine z_go (y := y) (v := some v) (S1 := S1) (a := (Value.ref (Γ.2.1 h) :: As.map (tv Γ)).toArray) ?_ C.2.2.2.2.2.2.2.2.2.2.2.2.1 hS hl k9
  have hcb := callB_of (R := X.2.2.2.1) (rm := { frames := f1, cells := 0, slots := 0, locals := l1 }) (mc := 0) (ms := 0) As.length hts (gt_good c2) rfl rfl rfl (hts _ c1) (hts _ hw) c3 ⟨Nat.le_trans hrm.1 C.2.2.2.2.2.2.2.2.2.2.1, Nat.le_trans (by show 8 + (nl + 11) + l1 ≤ lo; omega) C.2.2.2.2.2.2.2.2.2.2.2.1⟩
  obtain ⟨hrc, hrs, hfr, hlo, hws, hcw, hcode, hini, hy, hlen, hl2⟩ := hcb
  have hK : Back X.2.1 X.2.2.2.1 X.1 X.2.2.1 X.2.2.2.2.2.2.2.1 X.2.2.2.2.1 X.2.2.2.2.2.2.1 y 3 16 (PreOf X.2.2.2.1 0 0 (va_Pc ((aR h :: As).map (tv Γ)) (Pre Γ S))) (PostOf (Qc1 Γ (some v) S1) 0 0 (AD Γ)) := back_of (bytes := b) (maxL := nl) (ret := rt) hM pre_blind hrc hrs hfr (by show 16 + (nl + 11) + l1 ≤ _; exact Nat.le_trans hrm.2 C.2.2.2.2.2.2.2.2.2.2.2.1) hws hcw (fun a' U hW => word_at hW (Or.inl (by first | rfl | simp [Cond.onTables, Cond.keeps, Cond.steady])) hini)
  obtain ⟨cellB, hcB, hoB, hclB⟩ := va_recv C.2.2.2.2.2.1 hP hq (ce (wl_at Γ S hk9) (ent_obj Γ S hk hci))
  rw [hqy] at hclB
  intro T hT X0
  obtain ⟨w, vm₁, ⟨U', l2, c2', s2⟩, hW₁, X', ⟨g', mk, t, L, e1, e2, hq1, h1, hL, h2, h3⟩, st⟩ := callV X0 C.1 (C := y.cls) (bytes := b) (maxL := nl) (ret := rt) C.2.2.2.1 hl2 (hts _ c4) (hts _ c5) hcode hy hK (by rw [hT]; exact hcB) hoB hclB rfl (hl.1.trans C.2.2.1.symm) (argsL := As.map (tv Γ)) (rest := rest.map (tv Γ)) (fun sig h => by rw [List.length_map]; exact hlen sig h) (by
    show (As.reverse ++ aR h :: rest).map (tv Γ) = _
    rw [st_rev]
    show _ ++ rv Γ h :: _ = _
    rw [rv_pos (kd_in hk9).1]) (mon_room (by rw [cat_sum]; exact hst)) (by rw [C.2.1]; exact hd)
    (fun vm₁ hW₁ => ⟨C.2.2.2.2.2.2.2.2.2.2.2.2.2.1, C.2.2.2.2.2.2.2.2.2.2.2.2.2.2, by rw [← e], pre_at C hP hS hT hW₁⟩)
  dsimp only [Pt.U, Pt.locs, Pt.cells, Pt.slots] at X' e1 e2 h1 h2 h3 st
  subst h1; subst h2; subst h3
  exact ⟨w, (T.setVm vm₁).calling g' mk (Value.ref (Γ.2.1 h) :: As.map (tv Γ)).toArray, t, U', L, hT, X', hL, e1, e2, hq1, st⟩
end ZWIDE
