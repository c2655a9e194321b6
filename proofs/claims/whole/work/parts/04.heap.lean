/-! rows that touch the heap; calls; a method's start and end -/
section ZHEAP
variable {X : MC} {Γ : GG} {cc : ByteArray} {nL : Nat} {own : String} {fr lo : Nat} {Q : State → Prop} {S : Mem} {pc : Nat} {lv : List (Nat × AV)} {rest : List AV}
theorem k19 {h c n : Nat} (hk : kd h = (c, n)) (hc : c < 19) : (kd h).1 < 19 := by rw [hk]; exact hc
theorem ce {w : va_W} {i : Nat} {a : Nat} {e e' : va_E} (h : w[i]? = some (a, e)) (he : e = e') : w[i]? = some (a, e') := by rw [h, he]
theorem z_get (C : CX X Γ cc nL own fr lo) {h ci n k idx : Nat} {Cn nm ds : String} {T : u_T} {fi : Bool} {a : AV} (hk : kd h = (ci, n)) (hci : ci < 12) (hv : vwCl[ci]? = some (Cn, T, n)) (hin : ∀ w ∈ u_ws Cn T n, w ∈ lw_gt) (hkn : k < n) (hT : T k = (Cn, nm, ds, fi)) (ha : fv Γ S ci h k = tv Γ a) (hw : Cond.fieldLink own idx Cn nm ds ∈ lw_gt) (hd : decode cc pc = .ok (.getfield idx, 3)) (k9 : ZZ X Γ nL Q S (pc + 3) lv (a :: rest)) : ZZ X Γ nL Q S pc lv (aR h :: rest) := by
  intro H locs ls hP hS hl
  have hk9 : (kd h).1 < 19 := by rw [hk]; exact Nat.lt_trans hci (by decide)
  show W _ _ _ _ _ _ _ _ _ _ _ _ _ _ _ (F0 _ pc ls (rv Γ h :: rest.map (tv Γ)))
  rw [rv_pos (kd_in hk9).1]
  refine va_get (D := Γ.1) (ci := ci) (v := tv Γ a) (C := Cn) (T := T) (N := n) (ref := Cn) C.1 C.2.1 C.2.2.2.2.1 hin C.2.2.2.1 C.2.2.2.2.2.1 hP (h - 1) (ce (wl_at Γ S hk9) (ent_obj Γ S hk hci)) hv k hkn (by rw [hT]; exact C.2.2.2.2.1 _ hw) (by rw [hT]; exact fun _ h9 => h9) ?_ hd (k9 H locs ls hP hS hl)
  rw [List.getElem?_map, List.getElem?_range hkn, Option.map_some, ha]
theorem z_put {S' : Mem} (C : CX X Γ cc nL own fr lo) {h ci n k idx : Nat} {Cn nm ds : String} {T : u_T} {ty0 : Nat → FieldType} {ty : FieldType} {a : AV} (hk : kd h = (ci, n)) (hci : ci < 12) (hv : vwCl[ci]? = some (Cn, T, n)) (hin : ∀ w ∈ u_ws Cn T n, w ∈ lw_gt) (hty : ∀ k, k < n → parseFieldDescriptor (T k).2.2.1 = some (ty0 k)) (hnm : ∀ a, a < n → ∀ b, b < n → a ≠ b → (T a).2.1 ≠ (T b).2.1) (hkn : k < n) (hT : T k = (Cn, nm, ds, false)) (hds : parseFieldDescriptor ds = some ty) (hna : narrow ty (tv Γ a) = tv Γ a) (hfa : fits ty (tv Γ a) = true)
    (hS1 : fv Γ S' ci h k = tv Γ a) (hS2 : ∀ j, j ≠ k → fv Γ S' ci h j = fv Γ S ci h j) (hS3 : ∀ j, j ≠ h → ent Γ S' j = ent Γ S j) (hw : Cond.fieldLink own idx Cn nm ds ∈ lw_gt) (hd : decode cc pc = .ok (.putfield idx, 3)) (k9 : ZZ X Γ nL Q S' (pc + 3) lv rest) : ZZ X Γ nL Q S pc lv (a :: aR h :: rest) := by
  intro H locs ls hP hS hl
  have hk9 : (kd h).1 < 19 := by rw [hk]; exact Nat.lt_trans hci (by decide)
  show W _ _ _ _ _ _ _ _ _ _ _ _ _ _ _ (F0 _ pc ls (tv Γ a :: rv Γ h :: rest.map (tv Γ)))
  rw [rv_pos (kd_in hk9).1]
  have hset : (wl Γ S).set (h - 1) (Γ.2.1 h, .inr (ci, ((List.range n).map (fv Γ S ci h)).set k (tv Γ a))) = wl Γ S' := wl_set Γ hk9 (by rw [ent_obj Γ S' hk hci, range_set n k _ _ _ hS1 hS2]) hS3
  refine va_put (D := Γ.1) (ci := ci) (v := tv Γ a) (C := Cn) (T := T) (N := n) (ref := Cn) (ty := ty) C.1 C.2.1 C.2.2.2.2.1 hin ty0 hty hnm C.2.2.2.1 C.2.2.2.2.2.1 hP ((wl_D Γ C.2.2.2.2.2.2.2.2.1 S).weaken (fun _ _ _ h9 => C.2.2.2.2.2.2.2.2.2.2.2.2.1 _ h9)) hS (h - 1) (ce (wl_at Γ S hk9) (ent_obj Γ S hk hci)) hv k hkn (by rw [hT]; exact C.2.2.2.2.1 _ hw) (by rw [hT]; exact fun _ h9 => h9) (by rw [hT]) (by rw [hT]; exact hds) hna hfa (by rw [List.length_map, List.length_range]; exact hkn) hd (fun H1 locs1 hP1 _ hS1 => ?_)
  rw [hset] at hP1
  exact k9 H1 locs1 ls hP1 hS1 hl
theorem z_putI (C : CX X Γ cc nL own fr lo) {h ci n k idx : Nat} {Cn nm ds : String} {T : u_T} {ty0 : Nat → FieldType} {ty : FieldType} {x : Int32} (hk : kd h = (ci, n)) (hci : ci < 12) (hv : vwCl[ci]? = some (Cn, T, n)) (hin : ∀ w ∈ u_ws Cn T n, w ∈ lw_gt) (hty : ∀ k, k < n → parseFieldDescriptor (T k).2.2.1 = some (ty0 k)) (hnm : ∀ a, a < n → ∀ b, b < n → a ≠ b → (T a).2.1 ≠ (T b).2.1) (hkn : k < n) (hT : T k = (Cn, nm, ds, false)) (hds : parseFieldDescriptor ds = some ty) (hx : fx ci k = (0, 0)) (hna : narrow ty (.int x) = .int x) (hfa : fits ty (.int x) = true) (hw : Cond.fieldLink own idx Cn nm ds ∈ lw_gt) (hd : decode cc pc = .ok (.putfield idx, 3)) (k9 : ZZ X Γ nL Q (sI S h k x) (pc + 3) lv rest) : ZZ X Γ nL Q S pc lv (aI x :: aR h :: rest) :=
  z_put (S' := sI S h k x) C hk hci hv hin hty hnm hkn hT hds hna hfa (by rw [fv_int hx]; simp [gI, sI, tv]) (fun j hj => fv_cg (by simp [gI, sI, hj]) rfl rfl) (fun j hj => sI_ne Γ S hj) hw hd k9
theorem z_putL (C : CX X Γ cc nL own fr lo) {h ci n k idx : Nat} {Cn nm ds : String} {T : u_T} {ty0 : Nat → FieldType} {x : Int64} (hk : kd h = (ci, n)) (hci : ci < 12) (hv : vwCl[ci]? = some (Cn, T, n)) (hin : ∀ w ∈ u_ws Cn T n, w ∈ lw_gt) (hty : ∀ k, k < n → parseFieldDescriptor (T k).2.2.1 = some (ty0 k)) (hnm : ∀ a, a < n → ∀ b, b < n → a ≠ b → (T a).2.1 ≠ (T b).2.1) (hkn : k < n) (hT : T k = (Cn, nm, ds, false)) (hds : parseFieldDescriptor ds = some .long) (hx : fx ci k = (1, 0)) (hw : Cond.fieldLink own idx Cn nm ds ∈ lw_gt) (hd : decode cc pc = .ok (.putfield idx, 3)) (k9 : ZZ X Γ nL Q (sL S h k x) (pc + 3) lv rest) : ZZ X Γ nL Q S pc lv (aJ x :: aR h :: rest) :=
  z_put (S' := sL S h k x) C hk hci hv hin hty hnm hkn hT hds rfl rfl (by rw [fv_long hx]; simp [gL, sL, tv]) (fun j hj => fv_cg rfl (by simp [gL, sL, hj]) rfl) (fun j hj => sL_ne Γ S hj) hw hd k9
theorem z_putR (C : CX X Γ cc nL own fr lo) {h ci n k idx : Nat} {Cn nm ds cn : String} {T : u_T} {ty0 : Nat → FieldType} {x : Nat} (hk : kd h = (ci, n)) (hci : ci < 12) (hv : vwCl[ci]? = some (Cn, T, n)) (hin : ∀ w ∈ u_ws Cn T n, w ∈ lw_gt) (hty : ∀ k, k < n → parseFieldDescriptor (T k).2.2.1 = some (ty0 k)) (hnm : ∀ a, a < n → ∀ b, b < n → a ≠ b → (T a).2.1 ≠ (T b).2.1) (hkn : k < n) (hT : T k = (Cn, nm, ds, false)) (hds : parseFieldDescriptor ds = some (.object cn)) (hx : fx ci k = (4, 0)) (hw : Cond.fieldLink own idx Cn nm ds ∈ lw_gt) (hd : decode cc pc = .ok (.putfield idx, 3)) (k9 : ZZ X Γ nL Q (sR S h k x) (pc + 3) lv rest) : ZZ X Γ nL Q S pc lv (aR x :: aR h :: rest) :=
  z_put (S' := sR S h k x) C hk hci hv hin hty hnm hkn hT hds (by show narrow _ (rv Γ x) = rv Γ x; rcases rv_or Γ x with q | q <;> rw [q] <;> rfl) (by show fits _ (rv Γ x) = true; rcases rv_or Γ x with q | q <;> rw [q] <;> rfl) (by rw [fv_mut hx]; simp [gR, sR, tv]) (fun j hj => fv_cg rfl rfl (by simp [gR, sR, hj])) (fun j hj => sR_ne Γ S hj) hw hd k9
theorem isB_nar {x : Int32} (h : isB x = true) : narrow .boolean (.int x) = .int x ∧ fits .boolean (.int x) = true := by
  simp only [isB, Bool.or_eq_true, decide_eq_true_eq] at h
  rcases h with rfl | rfl <;> decide
theorem z_alen (C : CX X Γ cc nL own fr lo) {h ci n : Nat} {v : Int32} (hk : kd h = (ci, n)) (hc : 12 ≤ ci ∧ ci < 19) (hv : Int32.ofNat n = v) (hd : decode cc pc = .ok (.arraylength, 1)) (k9 : ZZ X Γ nL Q S (pc + 1) lv (aI v :: rest)) : ZZ X Γ nL Q S pc lv (aR h :: rest) := by
  intro H locs ls hP hS hl
  have hk9 : (kd h).1 < 19 := by rw [hk]; exact hc.2
  show W _ _ _ _ _ _ _ _ _ _ _ _ _ _ _ (F0 _ pc ls (rv Γ h :: rest.map (tv Γ)))
  rw [rv_pos (kd_in hk9).1]
  have hw := wl_at Γ S hk9
  rcases (show ci = 12 ∨ ci = 13 ∨ ci = 14 ∨ ci = 15 ∨ ci = 16 ∨ ci = 17 ∨ ci = 18 by omega) with rfl | rfl | rfl | rfl | rfl | rfl | rfl
  · exact va_alen C.1 C.2.1 C.2.2.2.2.2.1 hP (h - 1) 0 (ce hw (ent_int Γ S hk (by decide))) rfl hv hd (k9 H locs ls hP hS hl)
  · exact va_alen C.1 C.2.1 C.2.2.2.2.2.1 hP (h - 1) 1 (ce hw (ent_int Γ S hk (by decide))) rfl hv hd (k9 H locs ls hP hS hl)
  · exact va_alen C.1 C.2.1 C.2.2.2.2.2.1 hP (h - 1) 2 (ce hw (ent_long Γ S hk)) rfl hv hd (k9 H locs ls hP hS hl)
  · exact va_alen C.1 C.2.1 C.2.2.2.2.2.1 hP (h - 1) 3 (ce hw (ent_int Γ S hk (by decide))) rfl hv hd (k9 H locs ls hP hS hl)
  · exact va_alen C.1 C.2.1 C.2.2.2.2.2.1 hP (h - 1) 4 (ce hw (ent_pools Γ S hk)) rfl hv hd (k9 H locs ls hP hS hl)
  · exact va_alen C.1 C.2.1 C.2.2.2.2.2.1 hP (h - 1) 5 (ce hw (ent_stakes Γ S hk)) rfl hv hd (k9 H locs ls hP hS hl)
  · exact va_alen C.1 C.2.1 C.2.2.2.2.2.1 hP (h - 1) 6 (ce hw (ent_steps Γ S hk)) rfl hv hd (k9 H locs ls hP hS hl)
theorem z_iald (C : CX X Γ cc nL own fr lo) {h n : Nat} {i : Int32} (hk : kd h = (13, n)) (hi : inb i n = true) (hd : decode cc pc = .ok (.iaload, 1)) (k9 : ZZ X Γ nL Q S (pc + 1) lv (aI (gI S h i.toNatClampNeg) :: rest)) : ZZ X Γ nL Q S pc lv (aI i :: aR h :: rest) := by
  intro H locs ls hP hS hl
  have hk9 : (kd h).1 < 19 := k19 hk (by decide)
  show W _ _ _ _ _ _ _ _ _ _ _ _ _ _ _ (F0 _ pc ls (.int i :: rv Γ h :: rest.map (tv Γ)))
  rw [rv_pos (kd_in hk9).1]
  exact va_iald C.1 C.2.1 C.2.2.2.2.2.1 hP (h - 1) 1 (ce (wl_at Γ S hk9) (ent_int Γ S hk (by decide))) rfl (inb_vp hi) hd (k9 H locs ls hP hS hl)
theorem z_bald (C : CX X Γ cc nL own fr lo) {h n : Nat} {i : Int32} (hk : kd h = (12, n)) (hi : inb i n = true) (hd : decode cc pc = .ok (.baload, 1)) (k9 : ZZ X Γ nL Q S (pc + 1) lv (aI (gI S h i.toNatClampNeg) :: rest)) : ZZ X Γ nL Q S pc lv (aI i :: aR h :: rest) := by
  intro H locs ls hP hS hl
  have hk9 : (kd h).1 < 19 := k19 hk (by decide)
  show W _ _ _ _ _ _ _ _ _ _ _ _ _ _ _ (F0 _ pc ls (.int i :: rv Γ h :: rest.map (tv Γ)))
  rw [rv_pos (kd_in hk9).1]
  exact va_bald C.1 C.2.1 C.2.2.2.2.2.1 hP (h - 1) 0 (ce (wl_at Γ S hk9) (ent_int Γ S hk (by decide))) rfl (inb_vp hi) hd (k9 H locs ls hP hS hl)
theorem z_zald (C : CX X Γ cc nL own fr lo) {h n : Nat} {i : Int32} (hk : kd h = (15, n)) (hi : inb i n = true) (hd : decode cc pc = .ok (.baload, 1)) (k9 : ZZ X Γ nL Q S (pc + 1) lv (aI (gI S h i.toNatClampNeg) :: rest)) : ZZ X Γ nL Q S pc lv (aI i :: aR h :: rest) := by
  intro H locs ls hP hS hl
  have hk9 : (kd h).1 < 19 := k19 hk (by decide)
  show W _ _ _ _ _ _ _ _ _ _ _ _ _ _ _ (F0 _ pc ls (.int i :: rv Γ h :: rest.map (tv Γ)))
  rw [rv_pos (kd_in hk9).1]
  exact va_zald C.1 C.2.1 C.2.2.2.2.2.1 hP (h - 1) 3 (ce (wl_at Γ S hk9) (ent_int Γ S hk (by decide))) rfl (inb_vp hi) hd (k9 H locs ls hP hS hl)
theorem z_lald (C : CX X Γ cc nL own fr lo) {h n : Nat} {i : Int32} (hk : kd h = (14, n)) (hi : inb i n = true) (hd : decode cc pc = .ok (.laload, 1)) (k9 : ZZ X Γ nL Q S (pc + 1) lv (aJ (gL S h i.toNatClampNeg) :: rest)) : ZZ X Γ nL Q S pc lv (aI i :: aR h :: rest) := by
  intro H locs ls hP hS hl
  have hk9 : (kd h).1 < 19 := k19 hk (by decide)
  show W _ _ _ _ _ _ _ _ _ _ _ _ _ _ _ (F0 _ pc ls (.int i :: rv Γ h :: rest.map (tv Γ)))
  rw [rv_pos (kd_in hk9).1]
  exact va_lald C.1 C.2.1 C.2.2.2.2.2.1 hP (h - 1) 2 (ce (wl_at Γ S hk9) (ent_long Γ S hk)) rfl (inb_vp hi) hd (k9 H locs ls hP hS hl)
theorem z_aldP (C : CX X Γ cc nL own fr lo) {h n : Nat} {i : Int32} (hk : kd h = (16, n)) (hi : inb i n = true) (hd : decode cc pc = .ok (.aaload, 1)) (k9 : ZZ X Γ nL Q S (pc + 1) lv (aR (h + 2 + 5 * i.toNatClampNeg) :: rest)) : ZZ X Γ nL Q S pc lv (aI i :: aR h :: rest) := by
  intro H locs ls hP hS hl
  have hk9 : (kd h).1 < 19 := k19 hk (by decide)
  show W _ _ _ _ _ _ _ _ _ _ _ _ _ _ _ (F0 _ pc ls (.int i :: rv Γ h :: rest.map (tv Γ)))
  rw [rv_pos (kd_in hk9).1]
  exact va_aldq C.1 C.2.1 C.2.2.2.2.2.1 hP (h - 1) 4 (ce (wl_at Γ S hk9) (ent_pools Γ S hk)) rfl (inb_vp hi) hd (k9 H locs ls hP hS hl)
theorem z_aldS (C : CX X Γ cc nL own fr lo) {h n : Nat} {i : Int32} (hk : kd h = (17, n)) (hi : inb i n = true) (hd : decode cc pc = .ok (.aaload, 1)) (k9 : ZZ X Γ nL Q S (pc + 1) lv (aR (gR S h i.toNatClampNeg) :: rest)) : ZZ X Γ nL Q S pc lv (aI i :: aR h :: rest) := by
  intro H locs ls hP hS hl
  have hk9 : (kd h).1 < 19 := k19 hk (by decide)
  show W _ _ _ _ _ _ _ _ _ _ _ _ _ _ _ (F0 _ pc ls (.int i :: rv Γ h :: rest.map (tv Γ)))
  rw [rv_pos (kd_in hk9).1]
  exact va_aldq C.1 C.2.1 C.2.2.2.2.2.1 hP (h - 1) 5 (ce (wl_at Γ S hk9) (ent_stakes Γ S hk)) rfl (inb_vp hi) hd (k9 H locs ls hP hS hl)
theorem z_aldT (C : CX X Γ cc nL own fr lo) {h n : Nat} {i : Int32} (hk : kd h = (18, n)) (hi : inb i n = true) (hd : decode cc pc = .ok (.aaload, 1)) (k9 : ZZ X Γ nL Q S (pc + 1) lv (aR (h + 31 + i.toNatClampNeg) :: rest)) : ZZ X Γ nL Q S pc lv (aI i :: aR h :: rest) := by
  intro H locs ls hP hS hl
  have hk9 : (kd h).1 < 19 := k19 hk (by decide)
  show W _ _ _ _ _ _ _ _ _ _ _ _ _ _ _ (F0 _ pc ls (.int i :: rv Γ h :: rest.map (tv Γ)))
  rw [rv_pos (kd_in hk9).1]
  exact va_aldq C.1 C.2.1 C.2.2.2.2.2.1 hP (h - 1) 6 (ce (wl_at Γ S hk9) (ent_steps Γ S hk)) rfl (inb_vp hi) hd (k9 H locs ls hP hS hl)
theorem gI_upd (S : Mem) (h k : Nat) (x : Int32) : gI (sI S h k x) h = upd (gI S h) k x := by
  funext j
  by_cases e : j = k <;> simp [gI, sI, upd, e]
theorem gL_upd (S : Mem) (h k : Nat) (x : Int64) : gL (sL S h k x) h = vp_updL (gL S h) k x := by
  funext j
  by_cases e : j = k <;> simp [gL, sL, vp_updL, e]
theorem gR_upd (Γ : GG) (S : Mem) (h k v : Nat) (hv : v ≠ 0) : (fun i => rfo Γ (gR (sR S h k v) h i)) = va_up (fun i => rfo Γ (gR S h i)) k (some (Γ.2.1 v)) := by
  funext j
  by_cases e : j = k
  · subst e
    simp [va_up, gR, sR, rfo, hv]
  · simp [va_up, gR, sR, e]
theorem gI_cpI (S : Mem) (h0 sp h dp n : Nat) : gI (cpI S h0 sp h dp n) h = va_cpy (gI S h0) (gI S h) sp dp n := by
  funext j
  simp [gI, cpI]
  rfl
theorem z_iast (C : CX X Γ cc nL own fr lo) {h n : Nat} {i x : Int32} (hk : kd h = (13, n)) (hi : inb i n = true) (hd : decode cc pc = .ok (.iastore, 1)) (k9 : ZZ X Γ nL Q (sI S h i.toNatClampNeg x) (pc + 1) lv rest) : ZZ X Γ nL Q S pc lv (aI x :: aI i :: aR h :: rest) := by
  intro H locs ls hP hS hl
  have hk9 : (kd h).1 < 19 := k19 hk (by decide)
  show W _ _ _ _ _ _ _ _ _ _ _ _ _ _ _ (F0 _ pc ls (.int x :: .int i :: rv Γ h :: rest.map (tv Γ)))
  rw [rv_pos (kd_in hk9).1]
  refine va_iast C.1 C.2.1 C.2.2.2.2.2.1 hP ((wl_D Γ C.2.2.2.2.2.2.2.2.1 S).weaken (fun _ _ _ h9 => C.2.2.2.2.2.2.2.2.2.2.2.2.1 _ h9)) hS (h - 1) 1 (ce (wl_at Γ S hk9) (ent_int Γ S hk (by decide))) rfl (inb_vp hi) hd (fun H1 locs1 hP1 _ hS1 => ?_)
  rw [wl_set Γ (S' := sI S h i.toNatClampNeg x) hk9 (by rw [ent_int Γ _ hk (by decide), gI_upd]) (fun j hj => sI_ne Γ S hj)] at hP1
  exact k9 H1 locs1 ls hP1 hS1 hl
theorem z_bast (C : CX X Γ cc nL own fr lo) {h n : Nat} {i x : Int32} (hk : kd h = (12, n)) (hi : inb i n = true) (hd : decode cc pc = .ok (.bastore, 1)) (k9 : ZZ X Γ nL Q (sI S h i.toNatClampNeg x.toInt8.toInt32) (pc + 1) lv rest) : ZZ X Γ nL Q S pc lv (aI x :: aI i :: aR h :: rest) := by
  intro H locs ls hP hS hl
  have hk9 : (kd h).1 < 19 := k19 hk (by decide)
  show W _ _ _ _ _ _ _ _ _ _ _ _ _ _ _ (F0 _ pc ls (.int x :: .int i :: rv Γ h :: rest.map (tv Γ)))
  rw [rv_pos (kd_in hk9).1]
  refine va_bast C.1 C.2.1 C.2.2.2.2.2.1 hP ((wl_D Γ C.2.2.2.2.2.2.2.2.1 S).weaken (fun _ _ _ h9 => C.2.2.2.2.2.2.2.2.2.2.2.2.1 _ h9)) hS (h - 1) 0 (ce (wl_at Γ S hk9) (ent_int Γ S hk (by decide))) rfl (inb_vp hi) hd (fun H1 locs1 hP1 _ hS1 => ?_)
  rw [vp_nar_byte, wl_set Γ (S' := sI S h i.toNatClampNeg x.toInt8.toInt32) hk9 (by rw [ent_int Γ _ hk (by decide), gI_upd]) (fun j hj => sI_ne Γ S hj)] at hP1
  exact k9 H1 locs1 ls hP1 hS1 hl
theorem z_zast (C : CX X Γ cc nL own fr lo) {h n : Nat} {i x : Int32} (hk : kd h = (15, n)) (hi : inb i n = true) (hB : isB x = true) (hd : decode cc pc = .ok (.bastore, 1)) (k9 : ZZ X Γ nL Q (sI S h i.toNatClampNeg x) (pc + 1) lv rest) : ZZ X Γ nL Q S pc lv (aI x :: aI i :: aR h :: rest) := by
  intro H locs ls hP hS hl
  have hk9 : (kd h).1 < 19 := k19 hk (by decide)
  show W _ _ _ _ _ _ _ _ _ _ _ _ _ _ _ (F0 _ pc ls (.int x :: .int i :: rv Γ h :: rest.map (tv Γ)))
  rw [rv_pos (kd_in hk9).1]
  refine va_zast C.1 C.2.1 C.2.2.2.2.2.1 hP ((wl_D Γ C.2.2.2.2.2.2.2.2.1 S).weaken (fun _ _ _ h9 => C.2.2.2.2.2.2.2.2.2.2.2.2.1 _ h9)) hS (h - 1) 3 (ce (wl_at Γ S hk9) (ent_int Γ S hk (by decide))) rfl (inb_vp hi) hd (fun H1 locs1 hP1 _ hS1 => ?_)
  have e : vp_nar .boolean x = x := by unfold vp_nar; rw [(isB_nar hB).1]
  rw [e, wl_set Γ (S' := sI S h i.toNatClampNeg x) hk9 (by rw [ent_int Γ _ hk (by decide), gI_upd]) (fun j hj => sI_ne Γ S hj)] at hP1
  exact k9 H1 locs1 ls hP1 hS1 hl
theorem z_last (C : CX X Γ cc nL own fr lo) {h n : Nat} {i : Int32} {x : Int64} (hk : kd h = (14, n)) (hi : inb i n = true) (hd : decode cc pc = .ok (.lastore, 1)) (k9 : ZZ X Γ nL Q (sL S h i.toNatClampNeg x) (pc + 1) lv rest) : ZZ X Γ nL Q S pc lv (aJ x :: aI i :: aR h :: rest) := by
  intro H locs ls hP hS hl
  have hk9 : (kd h).1 < 19 := k19 hk (by decide)
  show W _ _ _ _ _ _ _ _ _ _ _ _ _ _ _ (F0 _ pc ls (.long x :: .int i :: rv Γ h :: rest.map (tv Γ)))
  rw [rv_pos (kd_in hk9).1]
  refine va_last C.1 C.2.1 C.2.2.2.2.2.1 hP ((wl_D Γ C.2.2.2.2.2.2.2.2.1 S).weaken (fun _ _ _ h9 => C.2.2.2.2.2.2.2.2.2.2.2.2.1 _ h9)) hS (h - 1) 2 (ce (wl_at Γ S hk9) (ent_long Γ S hk)) rfl (inb_vp hi) hd (fun H1 locs1 hP1 _ hS1 => ?_)
  rw [wl_set Γ (S' := sL S h i.toNatClampNeg x) hk9 (by rw [ent_long Γ _ hk, gL_upd]) (fun j hj => sL_ne Γ S hj)] at hP1
  exact k9 H1 locs1 ls hP1 hS1 hl
theorem z_astS (C : CX X Γ cc nL own fr lo) {h n v : Nat} {i : Int32} (hk : kd h = (17, n)) (hi : inb i n = true) (hv : kd v = (6, 8)) (hd : decode cc pc = .ok (.aastore, 1)) (k9 : ZZ X Γ nL Q (sR S h i.toNatClampNeg v) (pc + 1) lv rest) : ZZ X Γ nL Q S pc lv (aR v :: aI i :: aR h :: rest) := by
  intro H locs ls hP hS hl
  have hk9 : (kd h).1 < 19 := k19 hk (by decide)
  have hv9 : (kd v).1 < 19 := k19 hv (by decide)
  show W _ _ _ _ _ _ _ _ _ _ _ _ _ _ _ (F0 _ pc ls (rv Γ v :: .int i :: rv Γ h :: rest.map (tv Γ)))
  rw [rv_pos (kd_in hk9).1, rv_pos (kd_in hv9).1]
  refine va_astq C.1 C.2.1 C.2.2.2.2.2.1 hP ((wl_D Γ C.2.2.2.2.2.2.2.2.1 S).weaken (fun _ _ _ h9 => C.2.2.2.2.2.2.2.2.2.2.2.2.1 _ h9)) hS (h - 1) 5 (v - 1) 6 (ce (wl_at Γ S hk9) (ent_stakes Γ S hk)) rfl (ce (wl_at Γ S hv9) (ent_obj Γ S hv (by decide))) rfl (inb_vp hi) hd (fun H1 locs1 hP1 _ hS1 => ?_)
  rw [wl_set Γ (S' := sR S h i.toNatClampNeg v) hk9 (by rw [ent_stakes Γ _ hk, gR_upd Γ S h _ v (kd_in hv9).1]) (fun j hj => sR_ne Γ S hj)] at hP1
  exact k9 H1 locs1 ls hP1 hS1 hl
theorem z_copy (C : CX X Γ cc nL own fr lo) {h0 h n0 n1 idx : Nat} {sp dp n : Int32} (hw : Cond.methodLink own idx arraycopyName ∈ lw_gt) (hk0 : kd h0 = (13, n0)) (hk : kd h = (13, n1)) (h1 : ¬ sp < 0) (h2 : ¬ dp < 0) (h3 : ¬ n < 0) (h4 : sp.toNatClampNeg + n.toNatClampNeg ≤ n0) (h5 : dp.toNatClampNeg + n.toNatClampNeg ≤ n1) (hfr : 1 ≤ fr) (hlo : (rest.map cat).sum + 18 ≤ lo) (hd : decode cc pc = .ok (.invokestatic idx, 3)) (k9 : ZZ X Γ nL Q (cpI S h0 sp.toNatClampNeg h dp.toNatClampNeg n.toNatClampNeg) (pc + 3) lv rest) : ZZ X Γ nL Q S pc lv (aI n :: aI dp :: aR h :: aI sp :: aR h0 :: rest) := by
  intro H locs ls hP hS hl
  have hk9 : (kd h).1 < 19 := k19 hk (by decide)
  have hk8 : (kd h0).1 < 19 := k19 hk0 (by decide)
  show W _ _ _ _ _ _ _ _ _ _ _ _ _ _ _ (F0 _ pc ls (.int n :: .int dp :: rv Γ h :: .int sp :: rv Γ h0 :: rest.map (tv Γ)))
  rw [rv_pos (kd_in hk9).1, rv_pos (kd_in hk8).1]
  have ecat : ((rest.map (tv Γ)).map fun v => v.category) = rest.map cat := by
    rw [List.map_map]
    apply List.map_congr_left
    intro a _
    exact tv_cat Γ a
  refine va_copyi C.1 C.2.1 (by rw [C.2.2.1]; exact hl.1.symm) C.2.2.2.1 (C.2.2.2.2.1 _ hw) (C.2.2.2.2.1 _ tw_665) (C.2.2.2.2.1 _ tw_664) (C.2.2.2.2.1 _ tw_18) C.2.2.2.2.2.1 hP ((wl_D Γ C.2.2.2.2.2.2.2.2.1 S).weaken (fun _ _ _ h9 => C.2.2.2.2.2.2.2.2.2.2.2.2.1 _ h9)) hS (h0 - 1) (h - 1) 1 1 (ty := .int) (ce (wl_at Γ S hk8) (ent_int Γ S hk0 (by decide))) (ce (wl_at Γ S hk9) (ent_int Γ S hk (by decide))) rfl rfl rfl h1 h2 h3 h4 h5 (fun i _ => rfl) (Nat.le_trans hfr C.2.2.2.2.2.2.2.2.2.2.1) (by
    rw [ecat]
    exact Nat.le_trans hlo C.2.2.2.2.2.2.2.2.2.2.2.1) hd (fun H1 locs1 hP1 _ hS1 => ?_)
  rw [wl_set Γ (S' := cpI S h0 sp.toNatClampNeg h dp.toNatClampNeg n.toNatClampNeg) hk9 (by rw [ent_int Γ _ hk (by decide), gI_cpI]) (fun j hj => cpI_ne Γ S hj)] at hP1
  exact k9 H1 locs1 ls hP1 hS1 hl
theorem z_roots (C : CX X Γ cc nL own fr lo) {idx : Nat} (hw : Cond.fieldLink own idx "TickPools$Curve" "ROOTS" "[I" ∈ lw_gt) (hd : decode cc pc = .ok (.getstatic idx, 3)) (k9 : ZZ X Γ nL Q S (pc + 3) lv (aR 400 :: rest)) : ZZ X Γ nL Q S pc lv rest := fun H locs ls hP hS hl => va_gets C.1 C.2.1 C.2.2.2.2.2.2.1.1 hS C.2.2.2.1 (C.2.2.2.2.1 _ hw) (fun _ h9 => h9) hd (k9 H locs ls hP hS hl)
theorem z_rootsLen (C : CX X Γ cc nL own fr lo) (hd : decode cc pc = .ok (.arraylength, 1)) (k9 : ZZ X Γ nL Q S (pc + 1) lv (aI 41 :: rest)) : ZZ X Γ nL Q S pc lv (aR 400 :: rest) := fun H locs ls hP hS hl => va_tlen C.1 C.2.1 C.2.2.2.2.2.2.1.2.1 hS rfl hd (k9 H locs ls hP hS hl)
theorem z_rootsAt (C : CX X Γ cc nL own fr lo) {i : Int32} (hi : inb i 41 = true) (hd : decode cc pc = .ok (.iaload, 1)) (k9 : ZZ X Γ nL Q S (pc + 1) lv (aI (rootsf i.toNatClampNeg) :: rest)) : ZZ X Γ nL Q S pc lv (aI i :: aR 400 :: rest) := fun H locs ls hP hS hl => va_ti C.1 C.2.1 C.2.2.2.2.2.2.1.2.1 hS (inb_vp hi) rfl hd (k9 H locs ls hP hS hl)
/-- ends of a method -/
theorem z_ireturn (C : CX X Γ cc nL own fr lo) {ty : FieldType} {x : Int32} {S' : Mem} {r : Option AV} (hr : X.2.2.2.2.2.2.2.2.1.sig.returnType = some ty) (hn : narrow ty (.int x) = .int x) (hd : decode cc pc = .ok (.ireturn, 1)) (e1 : some (aI x) = r) (e2 : S = S') : ZZ X Γ nL (QQ X Γ r S') S pc lv [aI x] := by
  subst e1; subst e2
  intro H locs ls hP hS hl
  exact W.zret C.1 C.2.1 hr hn (fun t ht _ => ⟨⟨rfl, by rw [ht]; exact hP⟩, hS.F ht⟩) hS.2.2 hd C.2.2.2.2.2.2.2.2.2.1
theorem z_lreturn (C : CX X Γ cc nL own fr lo) {x : Int64} {S' : Mem} {r : Option AV} (hr : X.2.2.2.2.2.2.2.2.1.sig.returnType = some .long) (hd : decode cc pc = .ok (.lreturn, 1)) (e1 : some (aJ x) = r) (e2 : S = S') : ZZ X Γ nL (QQ X Γ r S') S pc lv [aJ x] := by
  subst e1; subst e2
  intro H locs ls hP hS hl
  exact W.lret C.1 C.2.1 hr (fun t ht _ => ⟨⟨rfl, by rw [ht]; exact hP⟩, hS.F ht⟩) hS.2.2 hd C.2.2.2.2.2.2.2.2.2.1
theorem z_areturn (C : CX X Γ cc nL own fr lo) {cn : String} {h : Nat} {S' : Mem} {r : Option AV} (hr : X.2.2.2.2.2.2.2.2.1.sig.returnType = some (.object cn)) (hd : decode cc pc = .ok (.areturn, 1)) (e1 : some (aR h) = r) (e2 : S = S') : ZZ X Γ nL (QQ X Γ r S') S pc lv [aR h] := by
  subst e1; subst e2
  intro H locs ls hP hS hl
  exact W.aret (v := rv Γ h) C.1 C.2.1 hr (Or.inl ⟨cn, rfl⟩) ((rv_or Γ h).imp id (fun q => ⟨_, q⟩)) (fun t ht _ => ⟨⟨rfl, by rw [ht]; exact hP⟩, hS.F ht⟩) hS.2.2 hd C.2.2.2.2.2.2.2.2.2.1
theorem z_return (C : CX X Γ cc nL own fr lo) {S' : Mem} {r : Option AV} (hr : X.2.2.2.2.2.2.2.2.1.sig.returnType = none) (hd : decode cc pc = .ok (.return_, 1)) (e1 : none = r) (e2 : S = S') : ZZ X Γ nL (QQ X Γ r S') S pc lv [] := by
  subst e1; subst e2
  intro H locs ls hP hS hl
  exact W.vret C.1 C.2.1 hr (fun t ht _ => ⟨⟨rfl, by rw [ht]; exact hP⟩, hS.F ht⟩) hS.2.2 hd C.2.2.2.2.2.2.2.2.2.1
/-- what is fast of a callee -/
def CalB (y : MethodName) (b : ByteArray) (nl : Nat) (rt : Option FieldType) (n : Nat) : Prop :=
  Cond.initialized y.cls ∈ lw_gt ∧ Cond.code y b nl rt ∈ lw_gt ∧ (y.cls ≠ "java/lang/invoke/MethodHandle" ∧ y.cls ≠ "java/lang/invoke/VarHandle" ∧ (parseMethodDescriptor y.desc).map (fun d => d.parameters.length) = some n)
def CalV (y : MethodName) (b : ByteArray) (nl : Nat) (rt : Option FieldType) (n : Nat) : Prop := CalB y b nl rt n ∧ Cond.instanceMethod y ∈ lw_gt ∧ Cond.selects y.cls y y ∈ lw_gt
def CalS (y : MethodName) (b : ByteArray) (nl : Nat) (rt : Option FieldType) (n : Nat) : Prop := CalB y b nl rt n ∧ Cond.static y ∈ lw_gt
theorem gt_good {y : MethodName} {b : ByteArray} {nl : Nat} {rt : Option FieldType} (h : Cond.code y b nl rt ∈ lw_gt) : GoodIn lw_gt (.code y b nl rt :: lw_gt) := by
  have key : ∀ w ∈ lw_gt, w ∈ lw_gt ∧ ((w.onTables && w.keeps) = true ∨ ∃ ty, w = .arrayClass ty) := fun w hw => ⟨hw, good_of_word (List.mem_filter.mp hw).2⟩
  intro w hw
  rcases List.mem_cons.mp hw with e | hw
  · subst e; exact key _ h
  · exact key w hw
theorem pre_blind {Γ : GG} {S : Mem} {av : List Value} : FrameBlind (va_Pc av (Pre Γ S)) := by
  intro a U g mk q
  obtain ⟨q0, qP, qK, qR, qW⟩ := q
  exact ⟨q0, qP, va_K.moved (u := U) (U := U.calling g mk a) (Vm.Alike.refl U.vm) qK, RO.moved (u := U) (U := U.calling g mk a) (Vm.Alike.refl U.vm) qR, RW.same (u := U) (U := U.calling g mk a) rfl qW⟩
theorem pre_at (C : CX X Γ cc nL own fr lo) {H : Heap} {locs : List Loc} (hP : va_P Γ.1 vwCl (wl Γ S) H) (hS : va_S X.2.2.2.2.2.2.2.2.2.2.1 X.2.2.2.2.1.heap H locs) {U : State} (hU : U.heap = H) (hW : X.2.2.2.2.1.WarmedH U.vm) : Pre Γ S U := by
  refine ⟨by rw [hU]; exact hP, va_K.moved hW.alike C.2.2.2.2.2.1, ?_, RW.warm hW C.2.2.2.2.2.2.2.1⟩
  rw [hU]
  exact RO.moved hW.alike ((RO.kept C.2.2.2.2.2.2.1 (fun a h1 h2 => hS.2.1 a h1 h2)).narrow C.2.2.2.2.2.2.2.2.2.2.2.2.1)
theorem z_go {y : MethodName} {v : Option AV} {S1 : Mem} {H : Heap} {locs : List Loc} {ls : Array Slot} {st0 : List Value} {a : Array Value} (hr : va_Run X.1 X.2.1 X.2.2.1 X.2.2.2.1 X.2.2.2.2.1 X.2.2.2.2.2.1 X.2.2.2.2.2.2.1 X.2.2.2.2.2.2.2.1 X.2.2.2.2.2.2.2.2.1 X.2.2.2.2.2.2.2.2.2.1 H locs X.2.2.2.2.2.2.2.2.2.2.2.1 X.2.2.2.2.2.2.2.2.2.2.2.2 0 0 (F0 X.2.2.2.2.2.1 pc ls st0) (rest.map (tv Γ)) (Qc1 Γ v S1 a) (AD Γ)) (hA : ∀ q, AD Γ q → X.2.2.2.2.2.2.2.2.2.2.1 q) (hS : va_S X.2.2.2.2.2.2.2.2.2.2.1 X.2.2.2.2.1.heap H locs) (hl : lv_has ls nL (lm Γ lv)) (k9 : ZZ X Γ nL Q S1 (pc + 3) lv (v.toList ++ rest)) : W X.1 X.2.1 X.2.2.1 X.2.2.2.1 X.2.2.2.2.1 X.2.2.2.2.2.1 X.2.2.2.2.2.2.1 X.2.2.2.2.2.2.2.1 X.2.2.2.2.2.2.2.2.1 X.2.2.2.2.2.2.2.2.2.1 H locs X.2.2.2.2.2.2.2.2.2.2.2.1 X.2.2.2.2.2.2.2.2.2.2.2.2 Q (F0 X.2.2.2.2.2.1 pc ls st0) := by
  intro T hT X0
  obtain ⟨w, st₀, t, T', L, h0, X', hL, e1, e2, ⟨⟨hv, hP1⟩, hz, hk⟩, st⟩ := hr T hT X0
  have ew : w = v.map (tv Γ) := by cases hv; rfl
  subst ew
  rw [h0] at hz hk
  have hS1 : va_S X.2.2.2.2.2.2.2.2.2.2.1 X.2.2.2.2.1.heap T'.heap (locs ++ L) := ⟨Nat.le_trans hS.1 (by rw [e1]; exact hz), fun q h1 h2 => by rw [e1, hk q (Nat.lt_of_lt_of_le h1 hS.1) (fun z => h2 (hA q z))]; exact hS.2.1 q h1 h2, fun q hq => by
      rcases List.mem_append.mp hq with h | h
      · exact hS.2.2 q h
      · exact hA _ (hL q h)⟩
  obtain ⟨t2, a1, b1⟩ := k9 T'.heap (locs ++ L) ls (by rw [e1]; exact hP1) hS1 hl T' rfl X'
  refine ⟨t2, st t2 ?_, b1⟩
  have e : (v.toList ++ rest).map (tv Γ) = (v.map (tv Γ)).toList ++ rest.map (tv Γ) := by cases v <;> simp
  rw [e] at a1
  exact a1
theorem st_rev (As : List AV) (b : AV) : (As.reverse ++ b :: rest).map (tv Γ) = (As.map (tv Γ)).reverse ++ tv Γ b :: rest.map (tv Γ) := by simp [List.map_append, List.map_reverse]
theorem cat_sum (Γ : GG) (l : List AV) : ((l.map (tv Γ)).map fun v => v.category).sum = (l.map cat).sum := by
  rw [List.map_map]
  congr 1
  apply List.map_congr_left
  intro a _
  exact tv_cat Γ a
theorem z_callV (C : CX X Γ cc nL own fr lo) {h ci n idx : Nat} {y : MethodName} {b : ByteArray} {nl : Nat} {rt : Option FieldType} {q : vw_C} {f1 l1 : Nat} {v : Option AV} {S1 : Mem} (As : List AV) (hk : kd h = (ci, n)) (hci : ci < 12) (hq : vwCl[ci]? = some q) (hqy : q.1 = y.cls) (ca : CalV y b nl rt As.length) (hw : Cond.methodLink own idx y ∈ lw_gt) (hrm : f1 + 1 ≤ fr ∧ 8 + (nl + 11) + l1 ≤ lo) (hst : (rest.map cat).sum ≤ 8) (hd : decode cc pc = .ok (.invokevirtual idx, 3)) (hM : MM X.2.1 Γ y b nl rt f1 l1 (aR h :: As) S v S1) (k9 : ZZ X Γ nL Q S1 (pc + 3) lv (v.toList ++ rest)) : ZZ X Γ nL Q S pc lv (As.reverse ++ aR h :: rest) := by
  intro H locs ls hP hS hl
  have hk9 : (kd h).1 < 19 := by rw [hk]; exact Nat.lt_trans hci (by decide)
  have hts := C.2.2.2.2.1
  obtain ⟨⟨c1, c2, c3⟩, c4, c5⟩ := ca
  have e : ((aR h :: As).map (tv Γ)).toArray = (Value.ref (Γ.2.1 h) :: As.map (tv Γ)).toArray := by show (rv Γ h :: As.map (tv Γ)).toArray = _; rw [rv_pos (kd_in hk9).1]
  refine z_go (y := y) (v := v) (S1 := S1) (va_runV (C := y.cls) (b := Γ.2.1 h) (As := As.map (tv Γ)) (rest := rest.map (tv Γ)) ⟨C.1, C.2.1, C.2.2.1, C.2.2.2.1, hts⟩ hM ⟨callB_of As.length hts (gt_good c2) rfl rfl rfl (hts _ c1) (hts _ hw) c3 ⟨Nat.le_trans hrm.1 C.2.2.2.2.2.2.2.2.2.2.1, Nat.le_trans hrm.2 C.2.2.2.2.2.2.2.2.2.2.2.1⟩, hts _ c4, hts _ c5⟩ ⟨pre_blind, ?_, fun U hU hW => ⟨by rw [← e], pre_at C hP hS hU hW⟩⟩ rfl (by rw [List.length_map]) (hl.1) ?_ (lv_room (by rw [cat_sum]; exact hst)) hd ⟨C.2.2.2.2.2.2.2.2.2.2.2.2.2.1, C.2.2.2.2.2.2.2.2.2.2.2.2.2.2⟩) C.2.2.2.2.2.2.2.2.2.2.2.2.1 hS hl k9
  · rw [← hqy]
    exact va_recv C.2.2.2.2.2.1 hP hq (ce (wl_at Γ S hk9) (ent_obj Γ S hk hci))
  · show (As.reverse ++ aR h :: rest).map (tv Γ) = _
    rw [st_rev]
    show _ ++ rv Γ h :: _ = _
    rw [rv_pos (kd_in hk9).1]
theorem z_callS (C : CX X Γ cc nL own fr lo) {idx : Nat} {y : MethodName} {b : ByteArray} {nl : Nat} {rt : Option FieldType} {f1 l1 : Nat} {v : Option AV} {S1 : Mem} (As : List AV) (ca : CalS y b nl rt As.length) (hw : Cond.methodLink own idx y ∈ lw_gt) (hrm : f1 + 1 ≤ fr ∧ 8 + (nl + 11) + l1 ≤ lo) (hst : (rest.map cat).sum ≤ 8) (hd : decode cc pc = .ok (.invokestatic idx, 3)) (hM : MM X.2.1 Γ y b nl rt f1 l1 As S v S1) (k9 : ZZ X Γ nL Q S1 (pc + 3) lv (v.toList ++ rest)) : ZZ X Γ nL Q S pc lv (As.reverse ++ rest) := by
  intro H locs ls hP hS hl
  have hts := C.2.2.2.2.1
  obtain ⟨⟨c1, c2, c3⟩, c4⟩ := ca
  refine z_go (y := y) (v := v) (S1 := S1) (va_runS (As := As.map (tv Γ)) (rest := rest.map (tv Γ)) ⟨C.1, C.2.1, C.2.2.1, C.2.2.2.1, hts⟩ hM ⟨callB_of As.length hts (gt_good c2) rfl rfl rfl (hts _ c1) (hts _ hw) c3 ⟨Nat.le_trans hrm.1 C.2.2.2.2.2.2.2.2.2.2.1, Nat.le_trans hrm.2 C.2.2.2.2.2.2.2.2.2.2.2.1⟩, hts _ c4⟩ ⟨pre_blind, fun U hU hW => ⟨rfl, pre_at C hP hS hU hW⟩⟩ rfl (by rw [List.length_map]) (hl.1) ?_ (lv_room (by rw [cat_sum]; exact hst)) hd ⟨C.2.2.2.2.2.2.2.2.2.2.2.2.2.1, C.2.2.2.2.2.2.2.2.2.2.2.2.2.2⟩) C.2.2.2.2.2.2.2.2.2.2.2.2.1 hS hl k9
  show (As.reverse ++ rest).map (tv Γ) = _
  rw [List.map_append, List.map_reverse]
theorem z_callSN (C : CX X Γ cc nL own fr lo) {idx : Nat} {host : String} {y : MethodName} {b : ByteArray} {nl : Nat} {rt : Option FieldType} {f1 l1 : Nat} {v : Option AV} {S1 : Mem} (As : List AV) (ca : CalS y b nl rt As.length) (hw : Cond.methodLinkNest own idx y host ∈ nestw) (hrm : f1 + 1 ≤ fr ∧ 8 + (nl + 11) + l1 ≤ lo) (hst : (rest.map cat).sum ≤ 8) (hd : decode cc pc = .ok (.invokestatic idx, 3)) (hM : MM X.2.1 Γ y b nl rt f1 l1 As S v S1) (k9 : ZZ X Γ nL Q S1 (pc + 3) lv (v.toList ++ rest)) : ZZ X Γ nL Q S pc lv (As.reverse ++ rest) := by
  intro H locs ls hP hS hl
  have hts := C.2.2.2.2.1
  obtain ⟨⟨c1, c2, c3⟩, c4⟩ := ca
  refine z_go (y := y) (v := v) (S1 := S1) (va_runSN (As := As.map (tv Γ)) (rest := rest.map (tv Γ)) ⟨C.1, C.2.1, C.2.2.1, C.2.2.2.1, hts⟩ hM ⟨va_cnB As.length hts (gt_good c2) rfl rfl rfl (C.2.2.2.2.2.2.2.1.2 _ hw) (hts _ c1) c3 ⟨Nat.le_trans hrm.1 C.2.2.2.2.2.2.2.2.2.2.1, Nat.le_trans hrm.2 C.2.2.2.2.2.2.2.2.2.2.2.1⟩, hts _ c4, trivial⟩ ⟨pre_blind, fun U hU hW => ⟨rfl, pre_at C hP hS hU hW⟩⟩ rfl (by rw [List.length_map]) (hl.1) ?_ (lv_room (by rw [cat_sum]; exact hst)) hd ⟨C.2.2.2.2.2.2.2.2.2.2.2.2.2.1, C.2.2.2.2.2.2.2.2.2.2.2.2.2.2⟩) C.2.2.2.2.2.2.2.2.2.2.2.2.1 hS hl k9
  show (As.reverse ++ rest).map (tv Γ) = _
  rw [List.map_append, List.map_reverse]
def lva : Nat → List AV → List (Nat × AV)
  | _, [] => []
  | i, a :: as => (i, a) :: lva (if cat a = 2 then i + 2 else i + 1) as
theorem lva_map (Γ : GG) : ∀ (i : Nat) (av : List AV), lv_args i (av.map (tv Γ)) = lm Γ (lva i av)
  | _, [] => rfl
  | i, a :: as => by
    show (i, tv Γ a) :: lv_args (if (tv Γ a).category = 2 then i + 2 else i + 1) (as.map (tv Γ)) = (i, tv Γ a) :: lm Γ (lva (if cat a = 2 then i + 2 else i + 1) as)
    rw [tv_cat, lva_map Γ _ as]
theorem sl_len (Γ : GG) (av : List AV) : (lg_sl (av.map (tv Γ))).length = (av.map cat).sum := by
  unfold lg_sl
  induction av with
  | nil => rfl
  | cons a t ih =>
    rw [List.map_cons, List.flatMap_cons, List.length_append, ih, List.map_cons, List.sum_cons, tv_cat]
    rcases a with x | x | x <;> rfl
end ZHEAP
/-- a contract out of the walk of its body -/
theorem met_of {l : Launch} {Γ : GG} (hI : Inj Γ) {y : MethodName} {b : ByteArray} {nl fr lo : Nat} {rt : Option FieldType} {av : List AV} {S S' : Mem} {v : Option AV} (own : String) (hown : y.cls = own) (hy : plainName y.cls = true) (hlen : (av.map cat).sum ≤ nl)
    (body : ∀ X : MC, X.2.1 = l → CX X Γ b nl own fr lo → X.2.2.2.2.2.2.2.2.1.sig.returnType = rt → ZZ X Γ nl (QQ X Γ v S') S 0 (lva 0 av) []) : MM l Γ y b nl rt fr lo av S v S' := by
  refine Met.ofW (cc := b) (maxL := nl) (ret := rt) hy rfl ?_
  intro p e s m args below meth c s₁ B hml hv
  obtain ⟨rfl, hP, hK, hR, hW⟩ := hv
  have hts := atoms_spec (ws := .code y b nl rt :: lw_gt) B.pre
  have hfc : s.vm.findClass own = some m.cls := by rw [← hown]; exact findClass_of_methodNamed B.named
  have hl := lv_entry (av.map (tv Γ)) (n := nl) (by rw [sl_len]; exact hlen)
  rw [lva_map] at hl
  rw [lg_entry_eq]
  exact body (p, l, e, _, s, m, _, below, meth, c, AD Γ, 0, 0) rfl ⟨B.exec, B.bytes, hml, hfc, fun w hw => hts w (List.mem_cons_of_mem _ hw), hK, hR, hW, hI, B.notSynchronized, Nat.le_refl _, Nat.le_refl _, fun _ h => h, Nat.zero_le _, Nat.zero_le _⟩ B.returns s.heap [] _ hP va_S.rf hl
