/-! the law's loop, over the functions alone -/
def R_law : String := "TickPoolsLaw"
def lw_P (b : Addr) (xs : List Int32) (args : Array Value) (s : State) : Prop := args = #[.ref b] ∧ s.IntsAt b xs ∧ xs.length ≤ 3584 ∧ (Jvm.Cond.and given_1 narrow_1).before args s = true
def lw_Q (_ : Array Value) (s : State) (o : Outcome) (t : State) : Prop := o = .returned (some (.int 1)) ∧ Framed s o t [] 600000 7302250
def lw_Z (below : List Frame) (a : Array Value) (s : State) : State → Prop := fun t => ∃ o, t.status = .running ∧ Ended t below o ∧ lw_Q a s o t
/-- the law's own end, with 1 on the stack, nothing written that was there before, its room as the claim has it -/
theorem lw_ret {p : Program} {l : Launch} {e : Env} {s : State} {m : MethodId} {below : List Frame} {meth : Method} {c : Code} {b : Nat} (hx : p.tables.exec = Jvm.exec) (hb : c.code = code) (hr : meth.sig.returnType = ret) (hlocks : meth.locks = false) {pc : Nat} {H : Heap} {ls : Array Slot} (hdg : decode code pc = .ok (.ireturn, 1)) : W p l e room_1 s m #[Value.ref b] below meth c H [] 600000 7302250 (lw_Z below #[Value.ref b] s) (F0 m pc ls [.int 1]) := by
  intro T hT X
  obtain ⟨fs, hret, hrun, hended, hW, hframe⟩ := X.leave (v := some (.int 1)) (hlocks := hlocks) (fun h => by rw [hr] at h; cases h)
  have hmeth' : T.vm.method? m = some meth := X.method'
  refine ⟨T.setFrames fs, ?_, .returned (some (.int 1)), hrun, hended, rfl, ⟨_, rfl⟩, hW, hframe⟩
  jvm_step X.here [X.here.top, hx, hb, hdg, hmeth', hr, ret, narrow_b1]
  (try refine ⟨rfl, ?_⟩); (try refine ⟨rfl, ?_⟩)
  first | (intro acts; rw [hret _ acts rfl rfl rfl]) | rw [hret _ _ rfl rfl rfl]
  exact Steps.refl _
def lw_At (p : Program) (s : State) (m : MethodId) (meth : Method) (c : Code) (b L : Nat) (xs : Nat → Int32) : Prop :=
  p.tables.exec = Jvm.exec ∧ c.code = code ∧ meth.sig.returnType = ret ∧ c.maxLocals = 4 ∧ s.vm.findClass R_law = some m.cls ∧ (∀ w ∈ lw_tbl, w.before #[Value.ref b] s = true) ∧ va_X b L xs s s.heap ∧ b < s.heap.size ∧ meth.locks = false ∧ (Jvm.Cond.and given_1 narrow_1).before #[Value.ref b] s = true
/-- what stands fast behind the constructors -/
def LW (s : State) (b : Nat) (Γ : GG) (kc ks : Nat) : Prop := va_K Γ.1 vwCl (wty Γ) s ∧ RO Γ (fun q => s.heap.size ≤ q) s s.heap ∧ RW Γ s ∧ Inj Γ ∧ (∀ q, AD Γ q → s.heap.size ≤ q) ∧ Γ.2.1 500 = b ∧ kc ≤ 600000 ∧ ks ≤ 7302250
def LZ (p : Program) (l : Launch) (e : Env) (s : State) (m : MethodId) (below : List Frame) (meth : Method) (c : Code) (b : Nat) (Γ : GG) (kc ks : Nat) (S : Mem) (pc : Nat) (lv : List (Nat × AV)) (st : List AV) : Prop :=
  ∀ (H : Heap) (locs : List Loc) (ls : Array Slot), va_P Γ.1 vwCl (wl Γ S) H → va_S (fun q => s.heap.size ≤ q) s.heap H locs → lv_has ls 4 (lm Γ lv) → W p l e room_1 s m #[Value.ref b] below meth c H locs kc ks (lw_Z below #[Value.ref b] s) (F0 m pc ls (st.map (tv Γ)))
section LROWS
variable {p : Program} {l : Launch} {e : Env} {s : State} {m : MethodId} {below : List Frame} {meth : Method} {c : Code} {b L : Nat} {xs : Nat → Int32} {Γ : GG} {kc ks : Nat} {S : Mem} {pc : Nat} {lv : List (Nat × AV)} {rest : List AV}
theorem l_iload_n (C : lw_At p s m meth c b L xs) {j : Nat} {i : Fin 4} {x : Int32} (hd : decode code pc = .ok (.iload_n i, 1)) (hj : lv[j]? = some ((i : Nat), aI x)) (k : LZ p l e s m below meth c b Γ kc ks S (pc + 1) lv (aI x :: rest)) : LZ p l e s m below meth c b Γ kc ks S pc lv rest := fun H locs ls hP hS hl => lv_iload_n C.1 C.2.1 hd rfl (lv_at hl j (lm_at hj)) (k H locs ls hP hS hl)
theorem l_aload_n (C : lw_At p s m meth c b L xs) {j : Nat} {i : Fin 4} {h : Nat} (hh : h ≠ 0) (hd : decode code pc = .ok (.aload_n i, 1)) (hj : lv[j]? = some ((i : Nat), aR h)) (k : LZ p l e s m below meth c b Γ kc ks S (pc + 1) lv (aR h :: rest)) : LZ p l e s m below meth c b Γ kc ks S pc lv rest := by
  intro H locs ls hP hS hl
  have h1 := lv_at hl j (lm_at hj)
  have h2 := k H locs ls hP hS hl
  have e1 : tv Γ (aR h) = .ref (Γ.2.1 h) := rv_pos hh
  have e : (aR h :: rest).map (tv Γ) = Value.ref (Γ.2.1 h) :: rest.map (tv Γ) := by rw [List.map_cons, e1]
  rw [e] at h2
  rw [e1] at h1
  exact lv_aload_n C.1 C.2.1 hd rfl h1 h2
theorem l_iconst (C : lw_At p s m meth c b L xs) {n : Int} {v : Int32} (hd : decode code pc = .ok (.iconst n, 1)) (hv : Int32.ofInt n = v) (k : LZ p l e s m below meth c b Γ kc ks S (pc + 1) lv (aI v :: rest)) : LZ p l e s m below meth c b Γ kc ks S pc lv rest := fun H locs ls hP hS hl => lv_iconst C.1 C.2.1 hd hv (k H locs ls hP hS hl)
theorem l_bipush (C : lw_At p s m meth c b L xs) {n : Int} {v : Int32} (hd : decode code pc = .ok (.bipush n, 2)) (hv : (Int8.ofInt n).toInt32 = v) (k : LZ p l e s m below meth c b Γ kc ks S (pc + 2) lv (aI v :: rest)) : LZ p l e s m below meth c b Γ kc ks S pc lv rest := fun H locs ls hP hS hl => lv_bipush C.1 C.2.1 hd hv (k H locs ls hP hS hl)
theorem l_iadd (C : lw_At p s m meth c b L xs) {x y : Int32} (hd : decode code pc = .ok (.iadd, 1)) (k : LZ p l e s m below meth c b Γ kc ks S (pc + 1) lv (aI (x + y) :: rest)) : LZ p l e s m below meth c b Γ kc ks S pc lv (aI y :: aI x :: rest) := fun H locs ls hP hS hl => lv_iadd C.1 C.2.1 hd (k H locs ls hP hS hl)
theorem l_isub (C : lw_At p s m meth c b L xs) {x y : Int32} (hd : decode code pc = .ok (.isub, 1)) (k : LZ p l e s m below meth c b Γ kc ks S (pc + 1) lv (aI (x - y) :: rest)) : LZ p l e s m below meth c b Γ kc ks S pc lv (aI y :: aI x :: rest) := fun H locs ls hP hS hl => lv_isub C.1 C.2.1 hd (k H locs ls hP hS hl)
theorem l_iand (C : lw_At p s m meth c b L xs) {x y : Int32} (hd : decode code pc = .ok (.iand, 1)) (k : LZ p l e s m below meth c b Γ kc ks S (pc + 1) lv (aI (x &&& y) :: rest)) : LZ p l e s m below meth c b Γ kc ks S pc lv (aI y :: aI x :: rest) := fun H locs ls hP hS hl => lv_iand C.1 C.2.1 hd (k H locs ls hP hS hl)
theorem l_goto (C : lw_At p s m meth c b L xs) {off : Int} {tgt : Nat} (hd : decode code pc = .ok (.goto off, 3)) (ht : (pc : Int) + off = (tgt : Int)) (k : LZ p l e s m below meth c b Γ kc ks S tgt lv rest) : LZ p l e s m below meth c b Γ kc ks S pc lv rest := fun H locs ls hP hS hl => lv_goto C.1 C.2.1 hd ht (k H locs ls hP hS hl)
theorem l_iinc (C : lw_At p s m meth c b L xs) {i j : Nat} {n : Int} {x v : Int32} {lv' : List (Nat × AV)} (hd : decode code pc = .ok (.iinc i n, 3)) (hj : lv[j]? = some (i, aI x)) (hv : x + Int32.ofInt n = v) (hn : i < 4) (hl9 : (i, aI v) :: lv.filter (fun q => !(q.1 == i) && !(q.1 + 1 == i && cat q.2 == 2)) = lv') (k : LZ p l e s m below meth c b Γ kc ks S (pc + 3) lv' rest) : LZ p l e s m below meth c b Γ kc ks S pc lv rest := fun H locs ls hP hS hl => lv_iinc C.1 C.2.1 hd hl (lm_at hj) hv hn (by rw [lm_f1, ← hl9]; rfl) (fun ls' hl' => k H locs ls' hP hS hl')
theorem l_istore_n (C : lw_At p s m meth c b L xs) {i : Fin 4} {x : Int32} {lv' : List (Nat × AV)} (hd : decode code pc = .ok (.istore_n i, 1)) (hn : (i : Nat) < 4) (hl9 : ((i : Nat), aI x) :: lv.filter (fun q => !(q.1 == (i : Nat)) && !(q.1 + 1 == (i : Nat) && cat q.2 == 2)) = lv') (k : LZ p l e s m below meth c b Γ kc ks S (pc + 1) lv' rest) : LZ p l e s m below meth c b Γ kc ks S pc lv (aI x :: rest) := fun H locs ls hP hS hl => lv_istore_n C.1 C.2.1 hd rfl hl hn (by rw [lm_f1, ← hl9]; rfl) (fun ls' hl' => k H locs ls' hP hS hl')
theorem l_icmp_gt (C : lw_At p s m meth c b L xs) {x y : Int32} {off : Int} {tgt : Nat} (hd : decode code pc = .ok (.if_icmp .gt off, 3)) (ht : (pc : Int) + off = (tgt : Int)) (kt : y < x → LZ p l e s m below meth c b Γ kc ks S tgt lv rest) (kf : ¬ y < x → LZ p l e s m below meth c b Γ kc ks S (pc + 3) lv rest) : LZ p l e s m below meth c b Γ kc ks S pc lv (aI y :: aI x :: rest) := fun H locs ls hP hS hl => lv_icmp_gt C.1 C.2.1 hd ht (fun c => kt c H locs ls hP hS hl) (fun c => kf c H locs ls hP hS hl)
theorem l_same (C : lw_At p s m meth c b L xs) {x : Int32} {off : Int} {tgt : Nat} (hd : decode code pc = .ok (.if_icmp .eq off, 3)) (ht : (pc : Int) + off = (tgt : Int)) (kt : LZ p l e s m below meth c b Γ kc ks S tgt lv rest) : LZ p l e s m below meth c b Γ kc ks S pc lv (aI x :: aI x :: rest) := fun H locs ls hP hS hl => lv_icmp_eq C.1 C.2.1 hd ht (fun _ => kt H locs ls hP hS hl) (fun c => absurd rfl c)
theorem l_tin (C : lw_At p s m meth c b L xs) {dflt l9 h9 : Int} {offs : Array Int} {len : Nat} {x : Int32} {off : Int} {tgt : Nat} (hd : decode code pc = .ok (.tableswitch dflt l9 h9 offs, len)) (h1 : ¬ x.toInt < l9) (h2 : ¬ h9 < x.toInt) (ho : offs[(x.toInt - l9).toNat]? = some off) (ht : (pc : Int) + off = (tgt : Int)) (k : LZ p l e s m below meth c b Γ kc ks S tgt lv rest) : LZ p l e s m below meth c b Γ kc ks S pc lv (aI x :: rest) := fun H locs ls hP hS hl => lv_tableIn C.1 C.2.1 hd h1 h2 ho ht (k H locs ls hP hS hl)
theorem l_tout (C : lw_At p s m meth c b L xs) {dflt l9 h9 : Int} {offs : Array Int} {len : Nat} {x : Int32} {tgt : Nat} (hd : decode code pc = .ok (.tableswitch dflt l9 h9 offs, len)) (h : x.toInt < l9 ∨ h9 < x.toInt) (ht : (pc : Int) + dflt = (tgt : Int)) (k : LZ p l e s m below meth c b Γ kc ks S tgt lv rest) : LZ p l e s m below meth c b Γ kc ks S pc lv (aI x :: rest) := fun H locs ls hP hS hl => lv_tableOut C.1 C.2.1 hd h ht (k H locs ls hP hS hl)
theorem l_slen (C : lw_At p s m meth c b L xs) (G : LW s b Γ kc ks) (hd : decode code pc = .ok (.arraylength, 1)) (k : LZ p l e s m below meth c b Γ kc ks S (pc + 1) lv (aI (nI L) :: rest)) : LZ p l e s m below meth c b Γ kc ks S pc lv (aR 500 :: rest) := by
  intro H locs ls hP hS hl
  have e : (aR 500 :: rest).map (tv Γ) = Value.ref b :: rest.map (tv Γ) := by
    show rv Γ 500 :: _ = _
    rw [rv_pos (by decide), G.2.2.2.2.2.1]
  rw [e]
  exact va_slen C.1 C.2.1 C.2.2.2.2.2.2.1 C.2.2.2.2.2.2.2.1 (Nat.not_le.mpr C.2.2.2.2.2.2.2.1) hS hd (k H locs ls hP hS hl)
theorem l_sld (C : lw_At p s m meth c b L xs) (G : LW s b Γ kc ks) {i : Int32} (hi : vp_in i L) (hd : decode code pc = .ok (.iaload, 1)) (k : LZ p l e s m below meth c b Γ kc ks S (pc + 1) lv (aI (xs i.toNatClampNeg) :: rest)) : LZ p l e s m below meth c b Γ kc ks S pc lv (aI i :: aR 500 :: rest) := by
  intro H locs ls hP hS hl
  have e : (aI i :: aR 500 :: rest).map (tv Γ) = .int i :: Value.ref b :: rest.map (tv Γ) := by
    show .int i :: rv Γ 500 :: _ = _
    rw [rv_pos (by decide), G.2.2.2.2.2.1]
  rw [e]
  exact va_sld C.1 C.2.1 C.2.2.2.2.2.2.1 C.2.2.2.2.2.2.2.1 (Nat.not_le.mpr C.2.2.2.2.2.2.2.1) hS hi hd (k H locs ls hP hS hl)
theorem l_one (C : lw_At p s m meth c b L xs) (G : LW s b Γ kc ks) (hd : decode code pc = .ok (.ireturn, 1)) : LZ p l e s m below meth c b Γ kc ks S pc lv [aI 1] := by
  intro H locs ls hP hS hl
  refine va_forget (fun q hq => hS.2.2 q hq) ?_
  refine W.widen (k := 600000) (n := 7302250) G.2.2.2.2.2.2.1 G.2.2.2.2.2.2.2 ?_
  exact lw_ret C.1 C.2.1 C.2.2.1 C.2.2.2.2.2.2.2.2.1 hd
theorem l_call (C : lw_At p s m meth c b L xs) (G : LW s b Γ kc ks) {h ci n idx : Nat} {y : MethodName} {bb : ByteArray} {nl : Nat} {rt : Option FieldType} {q : vw_C} {f1 l1 : Nat} {v : AV} {S1 : Mem} {st : List AV} (As : List AV) (hk : kd h = (ci, n)) (hci : ci < 12) (hq : vwCl[ci]? = some q) (hqy : q.1 = y.cls) (ca : CalV y bb nl rt As.length) (hw : Cond.methodLink "TickPoolsLaw" idx y ∈ lw_gt) (hrm : f1 + 1 ≤ 15 ∧ 8 + (nl + 11) + l1 ≤ 700) (hst : (rest.map cat).sum ≤ 8) (hd : decode code pc = .ok (.invokevirtual idx, 3)) (hM : MM l Γ y bb nl rt f1 l1 (aR h :: As) S (some v) S1) (es : st = As.reverse ++ aR h :: rest) (k9 : LZ p l e s m below meth c b Γ kc ks S1 (pc + 3) lv (v :: rest)) : LZ p l e s m below meth c b Γ kc ks S pc lv st := by
  subst es
  intro H locs ls hP hS hl
  have hk9 : (kd h).1 < 19 := k19 hk (Nat.lt_trans hci (by decide))
  have hts : ∀ w ∈ lw_gt, w.before #[Value.ref b] s = true := fun w hw => C.2.2.2.2.2.1 w (List.mem_filter.mp hw).1
  obtain ⟨⟨c1, c2, c3⟩, c4, c5⟩ := ca
  obtain ⟨hK, hRO, hRW, hI, hA, hb5, hkc, hks⟩ := G
  have ea : ((aR h :: As).map (tv Γ)).toArray = (Value.ref (Γ.2.1 h) :: As.map (tv Γ)).toArray := by show (rv Γ h :: As.map (tv Γ)).toArray = _; rw [rv_pos (kd_in hk9).1]
  have hpre : ∀ U : State, U.heap = H → s.WarmedH U.vm → Pre Γ S U := fun U hU hW => ⟨by rw [hU]; exact hP, va_K.moved hW.alike hK, by rw [hU]; exact RO.moved hW.alike ((RO.kept hRO (fun a h1 _ => hS.2.1 a h1 (Nat.not_le.mpr h1))).narrow hA), RW.warm hW hRW⟩
  have hrun := va_runV (cells := kc) (slots := ks) (locs := locs) (H := H) (g := F0 m pc ls ((As.reverse ++ aR h :: rest).map (tv Γ))) (p := p) (l := l) (e := e) (R := room_1) (s := s) (m := m) (args := #[Value.ref b]) (below := below) (meth := meth) (c := c) (C := y.cls) (b := Γ.2.1 h) (As := As.map (tv Γ)) (rest := rest.map (tv Γ)) (own := "TickPoolsLaw") (nL := 4) ⟨C.1, C.2.1, C.2.2.2.1, C.2.2.2.2.1, hts⟩ hM ⟨callB_of (R := room_1) As.length hts (gt_good c2) rfl rfl rfl (hts _ c1) (hts _ hw) c3 hrm, hts _ c4, hts _ c5⟩ ⟨pre_blind, (by rw [← hqy]; exact va_recv hK hP hq (ce (wl_at Γ S hk9) (ent_obj Γ S hk hci))), fun U hU hW => ⟨by rw [← ea], hpre U hU hW⟩⟩ rfl (by rw [List.length_map]) hl.1 (by
    show (As.reverse ++ aR h :: rest).map (tv Γ) = _
    rw [st_rev]
    show _ ++ rv Γ h :: _ = _
    rw [rv_pos (kd_in hk9).1]) (lv_room (by rw [cat_sum]; exact hst)) hd ⟨hkc, hks⟩
  intro T hT X0
  obtain ⟨w, st₀, t, T', L', h0, X', hL', e1, e2, ⟨⟨hv, hP1⟩, hz, hkk⟩, stp⟩ := hrun T hT X0
  have ew : w = some (tv Γ v) := by cases hv; rfl
  subst ew
  rw [h0] at hz hkk
  have hS1 : va_S (fun q => s.heap.size ≤ q) s.heap T'.heap (locs ++ L') := ⟨Nat.le_trans hS.1 (by rw [e1]; exact hz), fun q h1 h2 => by rw [e1, hkk q (Nat.lt_of_lt_of_le h1 hS.1) (fun z => h2 (hA q z))]; exact hS.2.1 q h1 h2, fun q hq => by
      rcases List.mem_append.mp hq with h | h
      · exact hS.2.2 q h
      · exact hA _ (hL' q h)⟩
  obtain ⟨t2, a1, b1⟩ := k9 T'.heap (locs ++ L') ls (by rw [e1]; exact hP1) hS1 hl T' rfl X'
  exact ⟨t2, stp t2 a1, b1⟩
end LROWS
/-- a call of the class and one of the reference answer alike, and the invariant stays -/
def SO (INV : Mem → Prop) (f g : Mem → Option (Int32 × Mem)) : Prop := ∀ S, INV S → ∃ (r : Int32) (S1 S2 : Mem), f S = some (r, S1) ∧ g S1 = some (r, S2) ∧ INV S2
theorem vp_off {i k L : Nat} (h : i + k < L) (hL : L ≤ 3584) : vp_in (nI i + nI k) L := by
  rw [nI_add]
  exact vp_in_nI h (by omega)
theorem d_law_0 : decode code 0 = .ok (.new 7, 3) := by decide +kernel
theorem d_law_3 : decode code 3 = .ok (.dup, 1) := by decide +kernel
theorem d_law_4 : decode code 4 = .ok (.invokespecial 9, 3) := by decide +kernel
theorem d_law_7 : decode code 7 = .ok (.astore_n 1, 1) := by decide +kernel
theorem d_law_8 : decode code 8 = .ok (.new 10, 3) := by decide +kernel
theorem d_law_11 : decode code 11 = .ok (.dup, 1) := by decide +kernel
theorem d_law_12 : decode code 12 = .ok (.invokespecial 12, 3) := by decide +kernel
theorem d_law_15 : decode code 15 = .ok (.astore_n 2, 1) := by decide +kernel
theorem d_law_16 : decode code 16 = .ok (.iconst 0, 1) := by decide +kernel
theorem d_law_17 : decode code 17 = .ok (.istore_n 3, 1) := by decide +kernel
theorem d_law_18 : decode code 18 = .ok (.iload_n 3, 1) := by decide +kernel
theorem d_law_19 : decode code 19 = .ok (.aload_n 0, 1) := by decide +kernel
theorem d_law_20 : decode code 20 = .ok (.arraylength, 1) := by decide +kernel
theorem d_law_21 : decode code 21 = .ok (.bipush 7, 2) := by decide +kernel
theorem d_law_23 : decode code 23 = .ok (.isub, 1) := by decide +kernel
theorem d_law_24 : decode code 24 = .ok (.if_icmp .gt 1124, 3) := by decide +kernel
theorem d_law_27 : decode code 27 = .ok (.aload_n 0, 1) := by decide +kernel
theorem d_law_28 : decode code 28 = .ok (.iload_n 3, 1) := by decide +kernel
theorem d_law_29 : decode code 29 = .ok (.iaload, 1) := by decide +kernel
theorem d_law_30 : decode code 30 = .ok (.bipush 31, 2) := by decide +kernel
theorem d_law_32 : decode code 32 = .ok (.iand, 1) := by decide +kernel
theorem d_law_33 : decode code 33 = .ok (.tableswitch 1109 0 25 #[119, 182, 205, 218, 241, 264, 297, 330, 363, 396, 471, 504, 527, 550, 613, 666, 689, 722, 785, 838, 881, 924, 977, 1030, 1063, 1086], 119) := by decide +kernel
theorem d_law_152 : decode code 152 = .ok (.aload_n 1, 1) := by decide +kernel
theorem d_law_153 : decode code 153 = .ok (.aload_n 0, 1) := by decide +kernel
theorem d_law_154 : decode code 154 = .ok (.iload_n 3, 1) := by decide +kernel
theorem d_law_155 : decode code 155 = .ok (.iconst 1, 1) := by decide +kernel
theorem d_law_156 : decode code 156 = .ok (.iadd, 1) := by decide +kernel
theorem d_law_157 : decode code 157 = .ok (.iaload, 1) := by decide +kernel
theorem d_law_158 : decode code 158 = .ok (.aload_n 0, 1) := by decide +kernel
theorem d_law_159 : decode code 159 = .ok (.iload_n 3, 1) := by decide +kernel
theorem d_law_160 : decode code 160 = .ok (.iconst 2, 1) := by decide +kernel
theorem d_law_161 : decode code 161 = .ok (.iadd, 1) := by decide +kernel
theorem d_law_162 : decode code 162 = .ok (.iaload, 1) := by decide +kernel
theorem d_law_163 : decode code 163 = .ok (.aload_n 0, 1) := by decide +kernel
theorem d_law_164 : decode code 164 = .ok (.iload_n 3, 1) := by decide +kernel
theorem d_law_165 : decode code 165 = .ok (.iconst 3, 1) := by decide +kernel
theorem d_law_166 : decode code 166 = .ok (.iadd, 1) := by decide +kernel
theorem d_law_167 : decode code 167 = .ok (.iaload, 1) := by decide +kernel
theorem d_law_168 : decode code 168 = .ok (.aload_n 0, 1) := by decide +kernel
theorem d_law_169 : decode code 169 = .ok (.iload_n 3, 1) := by decide +kernel
theorem d_law_170 : decode code 170 = .ok (.iconst 4, 1) := by decide +kernel
theorem d_law_171 : decode code 171 = .ok (.iadd, 1) := by decide +kernel
theorem d_law_172 : decode code 172 = .ok (.iaload, 1) := by decide +kernel
theorem d_law_173 : decode code 173 = .ok (.aload_n 0, 1) := by decide +kernel
theorem d_law_174 : decode code 174 = .ok (.iload_n 3, 1) := by decide +kernel
theorem d_law_175 : decode code 175 = .ok (.iconst 5, 1) := by decide +kernel
theorem d_law_176 : decode code 176 = .ok (.iadd, 1) := by decide +kernel
theorem d_law_177 : decode code 177 = .ok (.iaload, 1) := by decide +kernel
theorem d_law_178 : decode code 178 = .ok (.invokevirtual 13, 3) := by decide +kernel
theorem d_law_181 : decode code 181 = .ok (.aload_n 2, 1) := by decide +kernel
theorem d_law_182 : decode code 182 = .ok (.aload_n 0, 1) := by decide +kernel
theorem d_law_183 : decode code 183 = .ok (.iload_n 3, 1) := by decide +kernel
theorem d_law_184 : decode code 184 = .ok (.iconst 1, 1) := by decide +kernel
theorem d_law_185 : decode code 185 = .ok (.iadd, 1) := by decide +kernel
theorem d_law_186 : decode code 186 = .ok (.iaload, 1) := by decide +kernel
theorem d_law_187 : decode code 187 = .ok (.aload_n 0, 1) := by decide +kernel
theorem d_law_188 : decode code 188 = .ok (.iload_n 3, 1) := by decide +kernel
theorem d_law_189 : decode code 189 = .ok (.iconst 2, 1) := by decide +kernel
theorem d_law_190 : decode code 190 = .ok (.iadd, 1) := by decide +kernel
theorem d_law_191 : decode code 191 = .ok (.iaload, 1) := by decide +kernel
theorem d_law_192 : decode code 192 = .ok (.aload_n 0, 1) := by decide +kernel
theorem d_law_193 : decode code 193 = .ok (.iload_n 3, 1) := by decide +kernel
theorem d_law_194 : decode code 194 = .ok (.iconst 3, 1) := by decide +kernel
theorem d_law_195 : decode code 195 = .ok (.iadd, 1) := by decide +kernel
theorem d_law_196 : decode code 196 = .ok (.iaload, 1) := by decide +kernel
theorem d_law_197 : decode code 197 = .ok (.aload_n 0, 1) := by decide +kernel
theorem d_law_198 : decode code 198 = .ok (.iload_n 3, 1) := by decide +kernel
theorem d_law_199 : decode code 199 = .ok (.iconst 4, 1) := by decide +kernel
theorem d_law_200 : decode code 200 = .ok (.iadd, 1) := by decide +kernel
theorem d_law_201 : decode code 201 = .ok (.iaload, 1) := by decide +kernel
theorem d_law_202 : decode code 202 = .ok (.aload_n 0, 1) := by decide +kernel
theorem d_law_203 : decode code 203 = .ok (.iload_n 3, 1) := by decide +kernel
theorem d_law_204 : decode code 204 = .ok (.iconst 5, 1) := by decide +kernel
theorem d_law_205 : decode code 205 = .ok (.iadd, 1) := by decide +kernel
theorem d_law_206 : decode code 206 = .ok (.iaload, 1) := by decide +kernel
theorem d_law_207 : decode code 207 = .ok (.invokevirtual 17, 3) := by decide +kernel
theorem d_law_210 : decode code 210 = .ok (.if_icmp .eq 932, 3) := by decide +kernel
theorem d_law_213 : decode code 213 = .ok (.iconst 0, 1) := by decide +kernel
theorem d_law_214 : decode code 214 = .ok (.ireturn, 1) := by decide +kernel
theorem d_law_215 : decode code 215 = .ok (.aload_n 1, 1) := by decide +kernel
theorem d_law_216 : decode code 216 = .ok (.aload_n 0, 1) := by decide +kernel
theorem d_law_217 : decode code 217 = .ok (.iload_n 3, 1) := by decide +kernel
theorem d_law_218 : decode code 218 = .ok (.iconst 1, 1) := by decide +kernel
theorem d_law_219 : decode code 219 = .ok (.iadd, 1) := by decide +kernel
theorem d_law_220 : decode code 220 = .ok (.iaload, 1) := by decide +kernel
theorem d_law_221 : decode code 221 = .ok (.invokevirtual 18, 3) := by decide +kernel
theorem d_law_224 : decode code 224 = .ok (.aload_n 2, 1) := by decide +kernel
theorem d_law_225 : decode code 225 = .ok (.aload_n 0, 1) := by decide +kernel
theorem d_law_226 : decode code 226 = .ok (.iload_n 3, 1) := by decide +kernel
theorem d_law_227 : decode code 227 = .ok (.iconst 1, 1) := by decide +kernel
theorem d_law_228 : decode code 228 = .ok (.iadd, 1) := by decide +kernel
theorem d_law_229 : decode code 229 = .ok (.iaload, 1) := by decide +kernel
theorem d_law_230 : decode code 230 = .ok (.invokevirtual 22, 3) := by decide +kernel
theorem d_law_233 : decode code 233 = .ok (.if_icmp .eq 909, 3) := by decide +kernel
theorem d_law_236 : decode code 236 = .ok (.iconst 0, 1) := by decide +kernel
theorem d_law_237 : decode code 237 = .ok (.ireturn, 1) := by decide +kernel
theorem d_law_238 : decode code 238 = .ok (.aload_n 1, 1) := by decide +kernel
theorem d_law_239 : decode code 239 = .ok (.invokevirtual 23, 3) := by decide +kernel
theorem d_law_242 : decode code 242 = .ok (.aload_n 2, 1) := by decide +kernel
theorem d_law_243 : decode code 243 = .ok (.invokevirtual 27, 3) := by decide +kernel
theorem d_law_246 : decode code 246 = .ok (.if_icmp .eq 896, 3) := by decide +kernel
theorem d_law_249 : decode code 249 = .ok (.iconst 0, 1) := by decide +kernel
theorem d_law_250 : decode code 250 = .ok (.ireturn, 1) := by decide +kernel
theorem d_law_251 : decode code 251 = .ok (.aload_n 1, 1) := by decide +kernel
theorem d_law_252 : decode code 252 = .ok (.aload_n 0, 1) := by decide +kernel
theorem d_law_253 : decode code 253 = .ok (.iload_n 3, 1) := by decide +kernel
theorem d_law_254 : decode code 254 = .ok (.iconst 1, 1) := by decide +kernel
theorem d_law_255 : decode code 255 = .ok (.iadd, 1) := by decide +kernel
theorem d_law_256 : decode code 256 = .ok (.iaload, 1) := by decide +kernel
theorem d_law_257 : decode code 257 = .ok (.invokevirtual 28, 3) := by decide +kernel
theorem d_law_260 : decode code 260 = .ok (.aload_n 2, 1) := by decide +kernel
theorem d_law_261 : decode code 261 = .ok (.aload_n 0, 1) := by decide +kernel
theorem d_law_262 : decode code 262 = .ok (.iload_n 3, 1) := by decide +kernel
theorem d_law_263 : decode code 263 = .ok (.iconst 1, 1) := by decide +kernel
theorem d_law_264 : decode code 264 = .ok (.iadd, 1) := by decide +kernel
theorem d_law_265 : decode code 265 = .ok (.iaload, 1) := by decide +kernel
theorem d_law_266 : decode code 266 = .ok (.invokevirtual 31, 3) := by decide +kernel
theorem d_law_269 : decode code 269 = .ok (.if_icmp .eq 873, 3) := by decide +kernel
theorem d_law_272 : decode code 272 = .ok (.iconst 0, 1) := by decide +kernel
theorem d_law_273 : decode code 273 = .ok (.ireturn, 1) := by decide +kernel
theorem d_law_274 : decode code 274 = .ok (.aload_n 1, 1) := by decide +kernel
theorem d_law_275 : decode code 275 = .ok (.aload_n 0, 1) := by decide +kernel
theorem d_law_276 : decode code 276 = .ok (.iload_n 3, 1) := by decide +kernel
theorem d_law_277 : decode code 277 = .ok (.iconst 1, 1) := by decide +kernel
theorem d_law_278 : decode code 278 = .ok (.iadd, 1) := by decide +kernel
theorem d_law_279 : decode code 279 = .ok (.iaload, 1) := by decide +kernel
theorem d_law_280 : decode code 280 = .ok (.invokevirtual 32, 3) := by decide +kernel
theorem d_law_283 : decode code 283 = .ok (.aload_n 2, 1) := by decide +kernel
theorem d_law_284 : decode code 284 = .ok (.aload_n 0, 1) := by decide +kernel
theorem d_law_285 : decode code 285 = .ok (.iload_n 3, 1) := by decide +kernel
theorem d_law_286 : decode code 286 = .ok (.iconst 1, 1) := by decide +kernel
theorem d_law_287 : decode code 287 = .ok (.iadd, 1) := by decide +kernel
theorem d_law_288 : decode code 288 = .ok (.iaload, 1) := by decide +kernel
theorem d_law_289 : decode code 289 = .ok (.invokevirtual 35, 3) := by decide +kernel
theorem d_law_292 : decode code 292 = .ok (.if_icmp .eq 850, 3) := by decide +kernel
theorem d_law_295 : decode code 295 = .ok (.iconst 0, 1) := by decide +kernel
theorem d_law_296 : decode code 296 = .ok (.ireturn, 1) := by decide +kernel
theorem d_law_297 : decode code 297 = .ok (.aload_n 1, 1) := by decide +kernel
theorem d_law_298 : decode code 298 = .ok (.aload_n 0, 1) := by decide +kernel
theorem d_law_299 : decode code 299 = .ok (.iload_n 3, 1) := by decide +kernel
theorem d_law_300 : decode code 300 = .ok (.iconst 1, 1) := by decide +kernel
theorem d_law_301 : decode code 301 = .ok (.iadd, 1) := by decide +kernel
theorem d_law_302 : decode code 302 = .ok (.iaload, 1) := by decide +kernel
theorem d_law_303 : decode code 303 = .ok (.aload_n 0, 1) := by decide +kernel
theorem d_law_304 : decode code 304 = .ok (.iload_n 3, 1) := by decide +kernel
theorem d_law_305 : decode code 305 = .ok (.iconst 2, 1) := by decide +kernel
theorem d_law_306 : decode code 306 = .ok (.iadd, 1) := by decide +kernel
theorem d_law_307 : decode code 307 = .ok (.iaload, 1) := by decide +kernel
theorem d_law_308 : decode code 308 = .ok (.invokevirtual 36, 3) := by decide +kernel
theorem d_law_311 : decode code 311 = .ok (.aload_n 2, 1) := by decide +kernel
theorem d_law_312 : decode code 312 = .ok (.aload_n 0, 1) := by decide +kernel
theorem d_law_313 : decode code 313 = .ok (.iload_n 3, 1) := by decide +kernel
theorem d_law_314 : decode code 314 = .ok (.iconst 1, 1) := by decide +kernel
theorem d_law_315 : decode code 315 = .ok (.iadd, 1) := by decide +kernel
theorem d_law_316 : decode code 316 = .ok (.iaload, 1) := by decide +kernel
theorem d_law_317 : decode code 317 = .ok (.aload_n 0, 1) := by decide +kernel
theorem d_law_318 : decode code 318 = .ok (.iload_n 3, 1) := by decide +kernel
theorem d_law_319 : decode code 319 = .ok (.iconst 2, 1) := by decide +kernel
theorem d_law_320 : decode code 320 = .ok (.iadd, 1) := by decide +kernel
theorem d_law_321 : decode code 321 = .ok (.iaload, 1) := by decide +kernel
theorem d_law_322 : decode code 322 = .ok (.invokevirtual 40, 3) := by decide +kernel
theorem d_law_325 : decode code 325 = .ok (.if_icmp .eq 817, 3) := by decide +kernel
theorem d_law_328 : decode code 328 = .ok (.iconst 0, 1) := by decide +kernel
theorem d_law_329 : decode code 329 = .ok (.ireturn, 1) := by decide +kernel
theorem d_law_330 : decode code 330 = .ok (.aload_n 1, 1) := by decide +kernel
theorem d_law_331 : decode code 331 = .ok (.aload_n 0, 1) := by decide +kernel
theorem d_law_332 : decode code 332 = .ok (.iload_n 3, 1) := by decide +kernel
theorem d_law_333 : decode code 333 = .ok (.iconst 1, 1) := by decide +kernel
theorem d_law_334 : decode code 334 = .ok (.iadd, 1) := by decide +kernel
theorem d_law_335 : decode code 335 = .ok (.iaload, 1) := by decide +kernel
theorem d_law_336 : decode code 336 = .ok (.aload_n 0, 1) := by decide +kernel
theorem d_law_337 : decode code 337 = .ok (.iload_n 3, 1) := by decide +kernel
theorem d_law_338 : decode code 338 = .ok (.iconst 2, 1) := by decide +kernel
theorem d_law_339 : decode code 339 = .ok (.iadd, 1) := by decide +kernel
theorem d_law_340 : decode code 340 = .ok (.iaload, 1) := by decide +kernel
theorem d_law_341 : decode code 341 = .ok (.invokevirtual 41, 3) := by decide +kernel
theorem d_law_344 : decode code 344 = .ok (.aload_n 2, 1) := by decide +kernel
theorem d_law_345 : decode code 345 = .ok (.aload_n 0, 1) := by decide +kernel
theorem d_law_346 : decode code 346 = .ok (.iload_n 3, 1) := by decide +kernel
theorem d_law_347 : decode code 347 = .ok (.iconst 1, 1) := by decide +kernel
theorem d_law_348 : decode code 348 = .ok (.iadd, 1) := by decide +kernel
theorem d_law_349 : decode code 349 = .ok (.iaload, 1) := by decide +kernel
theorem d_law_350 : decode code 350 = .ok (.aload_n 0, 1) := by decide +kernel
theorem d_law_351 : decode code 351 = .ok (.iload_n 3, 1) := by decide +kernel
theorem d_law_352 : decode code 352 = .ok (.iconst 2, 1) := by decide +kernel
theorem d_law_353 : decode code 353 = .ok (.iadd, 1) := by decide +kernel
theorem d_law_354 : decode code 354 = .ok (.iaload, 1) := by decide +kernel
theorem d_law_355 : decode code 355 = .ok (.invokevirtual 44, 3) := by decide +kernel
theorem d_law_358 : decode code 358 = .ok (.if_icmp .eq 784, 3) := by decide +kernel
theorem d_law_361 : decode code 361 = .ok (.iconst 0, 1) := by decide +kernel
theorem d_law_362 : decode code 362 = .ok (.ireturn, 1) := by decide +kernel
theorem d_law_363 : decode code 363 = .ok (.aload_n 1, 1) := by decide +kernel
theorem d_law_364 : decode code 364 = .ok (.aload_n 0, 1) := by decide +kernel
theorem d_law_365 : decode code 365 = .ok (.iload_n 3, 1) := by decide +kernel
theorem d_law_366 : decode code 366 = .ok (.iconst 1, 1) := by decide +kernel
theorem d_law_367 : decode code 367 = .ok (.iadd, 1) := by decide +kernel
theorem d_law_368 : decode code 368 = .ok (.iaload, 1) := by decide +kernel
theorem d_law_369 : decode code 369 = .ok (.aload_n 0, 1) := by decide +kernel
theorem d_law_370 : decode code 370 = .ok (.iload_n 3, 1) := by decide +kernel
theorem d_law_371 : decode code 371 = .ok (.iconst 2, 1) := by decide +kernel
theorem d_law_372 : decode code 372 = .ok (.iadd, 1) := by decide +kernel
theorem d_law_373 : decode code 373 = .ok (.iaload, 1) := by decide +kernel
theorem d_law_374 : decode code 374 = .ok (.invokevirtual 45, 3) := by decide +kernel
theorem d_law_377 : decode code 377 = .ok (.aload_n 2, 1) := by decide +kernel
theorem d_law_378 : decode code 378 = .ok (.aload_n 0, 1) := by decide +kernel
theorem d_law_379 : decode code 379 = .ok (.iload_n 3, 1) := by decide +kernel
theorem d_law_380 : decode code 380 = .ok (.iconst 1, 1) := by decide +kernel
theorem d_law_381 : decode code 381 = .ok (.iadd, 1) := by decide +kernel
theorem d_law_382 : decode code 382 = .ok (.iaload, 1) := by decide +kernel
theorem d_law_383 : decode code 383 = .ok (.aload_n 0, 1) := by decide +kernel
theorem d_law_384 : decode code 384 = .ok (.iload_n 3, 1) := by decide +kernel
theorem d_law_385 : decode code 385 = .ok (.iconst 2, 1) := by decide +kernel
theorem d_law_386 : decode code 386 = .ok (.iadd, 1) := by decide +kernel
theorem d_law_387 : decode code 387 = .ok (.iaload, 1) := by decide +kernel
theorem d_law_388 : decode code 388 = .ok (.invokevirtual 48, 3) := by decide +kernel
theorem d_law_391 : decode code 391 = .ok (.if_icmp .eq 751, 3) := by decide +kernel
theorem d_law_394 : decode code 394 = .ok (.iconst 0, 1) := by decide +kernel
theorem d_law_395 : decode code 395 = .ok (.ireturn, 1) := by decide +kernel
theorem d_law_396 : decode code 396 = .ok (.aload_n 1, 1) := by decide +kernel
theorem d_law_397 : decode code 397 = .ok (.aload_n 0, 1) := by decide +kernel
theorem d_law_398 : decode code 398 = .ok (.iload_n 3, 1) := by decide +kernel
theorem d_law_399 : decode code 399 = .ok (.iconst 1, 1) := by decide +kernel
theorem d_law_400 : decode code 400 = .ok (.iadd, 1) := by decide +kernel
theorem d_law_401 : decode code 401 = .ok (.iaload, 1) := by decide +kernel
theorem d_law_402 : decode code 402 = .ok (.aload_n 0, 1) := by decide +kernel
theorem d_law_403 : decode code 403 = .ok (.iload_n 3, 1) := by decide +kernel
theorem d_law_404 : decode code 404 = .ok (.iconst 2, 1) := by decide +kernel
theorem d_law_405 : decode code 405 = .ok (.iadd, 1) := by decide +kernel
theorem d_law_406 : decode code 406 = .ok (.iaload, 1) := by decide +kernel
theorem d_law_407 : decode code 407 = .ok (.invokevirtual 49, 3) := by decide +kernel
theorem d_law_410 : decode code 410 = .ok (.aload_n 2, 1) := by decide +kernel
theorem d_law_411 : decode code 411 = .ok (.aload_n 0, 1) := by decide +kernel
theorem d_law_412 : decode code 412 = .ok (.iload_n 3, 1) := by decide +kernel
theorem d_law_413 : decode code 413 = .ok (.iconst 1, 1) := by decide +kernel
theorem d_law_414 : decode code 414 = .ok (.iadd, 1) := by decide +kernel
theorem d_law_415 : decode code 415 = .ok (.iaload, 1) := by decide +kernel
theorem d_law_416 : decode code 416 = .ok (.aload_n 0, 1) := by decide +kernel
theorem d_law_417 : decode code 417 = .ok (.iload_n 3, 1) := by decide +kernel
theorem d_law_418 : decode code 418 = .ok (.iconst 2, 1) := by decide +kernel
theorem d_law_419 : decode code 419 = .ok (.iadd, 1) := by decide +kernel
theorem d_law_420 : decode code 420 = .ok (.iaload, 1) := by decide +kernel
theorem d_law_421 : decode code 421 = .ok (.invokevirtual 52, 3) := by decide +kernel
theorem d_law_424 : decode code 424 = .ok (.if_icmp .eq 718, 3) := by decide +kernel
theorem d_law_427 : decode code 427 = .ok (.iconst 0, 1) := by decide +kernel
theorem d_law_428 : decode code 428 = .ok (.ireturn, 1) := by decide +kernel
theorem d_law_429 : decode code 429 = .ok (.aload_n 1, 1) := by decide +kernel
theorem d_law_430 : decode code 430 = .ok (.aload_n 0, 1) := by decide +kernel
theorem d_law_431 : decode code 431 = .ok (.iload_n 3, 1) := by decide +kernel
theorem d_law_432 : decode code 432 = .ok (.iconst 1, 1) := by decide +kernel
theorem d_law_433 : decode code 433 = .ok (.iadd, 1) := by decide +kernel
theorem d_law_434 : decode code 434 = .ok (.iaload, 1) := by decide +kernel
theorem d_law_435 : decode code 435 = .ok (.aload_n 0, 1) := by decide +kernel
theorem d_law_436 : decode code 436 = .ok (.iload_n 3, 1) := by decide +kernel
theorem d_law_437 : decode code 437 = .ok (.iconst 2, 1) := by decide +kernel
theorem d_law_438 : decode code 438 = .ok (.iadd, 1) := by decide +kernel
theorem d_law_439 : decode code 439 = .ok (.iaload, 1) := by decide +kernel
theorem d_law_440 : decode code 440 = .ok (.aload_n 0, 1) := by decide +kernel
theorem d_law_441 : decode code 441 = .ok (.iload_n 3, 1) := by decide +kernel
theorem d_law_442 : decode code 442 = .ok (.iconst 3, 1) := by decide +kernel
theorem d_law_443 : decode code 443 = .ok (.iadd, 1) := by decide +kernel
theorem d_law_444 : decode code 444 = .ok (.iaload, 1) := by decide +kernel
theorem d_law_445 : decode code 445 = .ok (.aload_n 0, 1) := by decide +kernel
theorem d_law_446 : decode code 446 = .ok (.iload_n 3, 1) := by decide +kernel
theorem d_law_447 : decode code 447 = .ok (.iconst 4, 1) := by decide +kernel
theorem d_law_448 : decode code 448 = .ok (.iadd, 1) := by decide +kernel
theorem d_law_449 : decode code 449 = .ok (.iaload, 1) := by decide +kernel
theorem d_law_450 : decode code 450 = .ok (.aload_n 0, 1) := by decide +kernel
theorem d_law_451 : decode code 451 = .ok (.iload_n 3, 1) := by decide +kernel
theorem d_law_452 : decode code 452 = .ok (.iconst 5, 1) := by decide +kernel
theorem d_law_453 : decode code 453 = .ok (.iadd, 1) := by decide +kernel
theorem d_law_454 : decode code 454 = .ok (.iaload, 1) := by decide +kernel
theorem d_law_455 : decode code 455 = .ok (.aload_n 0, 1) := by decide +kernel
theorem d_law_456 : decode code 456 = .ok (.iload_n 3, 1) := by decide +kernel
theorem d_law_457 : decode code 457 = .ok (.bipush 6, 2) := by decide +kernel
theorem d_law_459 : decode code 459 = .ok (.iadd, 1) := by decide +kernel
theorem d_law_460 : decode code 460 = .ok (.iaload, 1) := by decide +kernel
theorem d_law_461 : decode code 461 = .ok (.invokevirtual 53, 3) := by decide +kernel
theorem d_law_464 : decode code 464 = .ok (.aload_n 2, 1) := by decide +kernel
theorem d_law_465 : decode code 465 = .ok (.aload_n 0, 1) := by decide +kernel
theorem d_law_466 : decode code 466 = .ok (.iload_n 3, 1) := by decide +kernel
theorem d_law_467 : decode code 467 = .ok (.iconst 1, 1) := by decide +kernel
theorem d_law_468 : decode code 468 = .ok (.iadd, 1) := by decide +kernel
theorem d_law_469 : decode code 469 = .ok (.iaload, 1) := by decide +kernel
theorem d_law_470 : decode code 470 = .ok (.aload_n 0, 1) := by decide +kernel
theorem d_law_471 : decode code 471 = .ok (.iload_n 3, 1) := by decide +kernel
theorem d_law_472 : decode code 472 = .ok (.iconst 2, 1) := by decide +kernel
theorem d_law_473 : decode code 473 = .ok (.iadd, 1) := by decide +kernel
theorem d_law_474 : decode code 474 = .ok (.iaload, 1) := by decide +kernel
theorem d_law_475 : decode code 475 = .ok (.aload_n 0, 1) := by decide +kernel
theorem d_law_476 : decode code 476 = .ok (.iload_n 3, 1) := by decide +kernel
theorem d_law_477 : decode code 477 = .ok (.iconst 3, 1) := by decide +kernel
theorem d_law_478 : decode code 478 = .ok (.iadd, 1) := by decide +kernel
theorem d_law_479 : decode code 479 = .ok (.iaload, 1) := by decide +kernel
theorem d_law_480 : decode code 480 = .ok (.aload_n 0, 1) := by decide +kernel
theorem d_law_481 : decode code 481 = .ok (.iload_n 3, 1) := by decide +kernel
theorem d_law_482 : decode code 482 = .ok (.iconst 4, 1) := by decide +kernel
theorem d_law_483 : decode code 483 = .ok (.iadd, 1) := by decide +kernel
theorem d_law_484 : decode code 484 = .ok (.iaload, 1) := by decide +kernel
theorem d_law_485 : decode code 485 = .ok (.aload_n 0, 1) := by decide +kernel
theorem d_law_486 : decode code 486 = .ok (.iload_n 3, 1) := by decide +kernel
theorem d_law_487 : decode code 487 = .ok (.iconst 5, 1) := by decide +kernel
theorem d_law_488 : decode code 488 = .ok (.iadd, 1) := by decide +kernel
theorem d_law_489 : decode code 489 = .ok (.iaload, 1) := by decide +kernel
theorem d_law_490 : decode code 490 = .ok (.aload_n 0, 1) := by decide +kernel
theorem d_law_491 : decode code 491 = .ok (.iload_n 3, 1) := by decide +kernel
theorem d_law_492 : decode code 492 = .ok (.bipush 6, 2) := by decide +kernel
theorem d_law_494 : decode code 494 = .ok (.iadd, 1) := by decide +kernel
theorem d_law_495 : decode code 495 = .ok (.iaload, 1) := by decide +kernel
theorem d_law_496 : decode code 496 = .ok (.invokevirtual 57, 3) := by decide +kernel
theorem d_law_499 : decode code 499 = .ok (.if_icmp .eq 643, 3) := by decide +kernel
theorem d_law_502 : decode code 502 = .ok (.iconst 0, 1) := by decide +kernel
theorem d_law_503 : decode code 503 = .ok (.ireturn, 1) := by decide +kernel
theorem d_law_504 : decode code 504 = .ok (.aload_n 1, 1) := by decide +kernel
theorem d_law_505 : decode code 505 = .ok (.aload_n 0, 1) := by decide +kernel
theorem d_law_506 : decode code 506 = .ok (.iload_n 3, 1) := by decide +kernel
theorem d_law_507 : decode code 507 = .ok (.iconst 1, 1) := by decide +kernel
theorem d_law_508 : decode code 508 = .ok (.iadd, 1) := by decide +kernel
theorem d_law_509 : decode code 509 = .ok (.iaload, 1) := by decide +kernel
theorem d_law_510 : decode code 510 = .ok (.aload_n 0, 1) := by decide +kernel
theorem d_law_511 : decode code 511 = .ok (.iload_n 3, 1) := by decide +kernel
theorem d_law_512 : decode code 512 = .ok (.iconst 2, 1) := by decide +kernel
theorem d_law_513 : decode code 513 = .ok (.iadd, 1) := by decide +kernel
theorem d_law_514 : decode code 514 = .ok (.iaload, 1) := by decide +kernel
theorem d_law_515 : decode code 515 = .ok (.invokevirtual 58, 3) := by decide +kernel
theorem d_law_518 : decode code 518 = .ok (.aload_n 2, 1) := by decide +kernel
theorem d_law_519 : decode code 519 = .ok (.aload_n 0, 1) := by decide +kernel
theorem d_law_520 : decode code 520 = .ok (.iload_n 3, 1) := by decide +kernel
theorem d_law_521 : decode code 521 = .ok (.iconst 1, 1) := by decide +kernel
theorem d_law_522 : decode code 522 = .ok (.iadd, 1) := by decide +kernel
theorem d_law_523 : decode code 523 = .ok (.iaload, 1) := by decide +kernel
theorem d_law_524 : decode code 524 = .ok (.aload_n 0, 1) := by decide +kernel
theorem d_law_525 : decode code 525 = .ok (.iload_n 3, 1) := by decide +kernel
theorem d_law_526 : decode code 526 = .ok (.iconst 2, 1) := by decide +kernel
theorem d_law_527 : decode code 527 = .ok (.iadd, 1) := by decide +kernel
theorem d_law_528 : decode code 528 = .ok (.iaload, 1) := by decide +kernel
theorem d_law_529 : decode code 529 = .ok (.invokevirtual 61, 3) := by decide +kernel
theorem d_law_532 : decode code 532 = .ok (.if_icmp .eq 610, 3) := by decide +kernel
theorem d_law_535 : decode code 535 = .ok (.iconst 0, 1) := by decide +kernel
theorem d_law_536 : decode code 536 = .ok (.ireturn, 1) := by decide +kernel
theorem d_law_537 : decode code 537 = .ok (.aload_n 1, 1) := by decide +kernel
theorem d_law_538 : decode code 538 = .ok (.aload_n 0, 1) := by decide +kernel
theorem d_law_539 : decode code 539 = .ok (.iload_n 3, 1) := by decide +kernel
theorem d_law_540 : decode code 540 = .ok (.iconst 1, 1) := by decide +kernel
theorem d_law_541 : decode code 541 = .ok (.iadd, 1) := by decide +kernel
theorem d_law_542 : decode code 542 = .ok (.iaload, 1) := by decide +kernel
theorem d_law_543 : decode code 543 = .ok (.invokevirtual 62, 3) := by decide +kernel
theorem d_law_546 : decode code 546 = .ok (.aload_n 2, 1) := by decide +kernel
theorem d_law_547 : decode code 547 = .ok (.aload_n 0, 1) := by decide +kernel
theorem d_law_548 : decode code 548 = .ok (.iload_n 3, 1) := by decide +kernel
theorem d_law_549 : decode code 549 = .ok (.iconst 1, 1) := by decide +kernel
theorem d_law_550 : decode code 550 = .ok (.iadd, 1) := by decide +kernel
theorem d_law_551 : decode code 551 = .ok (.iaload, 1) := by decide +kernel
theorem d_law_552 : decode code 552 = .ok (.invokevirtual 65, 3) := by decide +kernel
theorem d_law_555 : decode code 555 = .ok (.if_icmp .eq 587, 3) := by decide +kernel
theorem d_law_558 : decode code 558 = .ok (.iconst 0, 1) := by decide +kernel
theorem d_law_559 : decode code 559 = .ok (.ireturn, 1) := by decide +kernel
theorem d_law_560 : decode code 560 = .ok (.aload_n 1, 1) := by decide +kernel
theorem d_law_561 : decode code 561 = .ok (.aload_n 0, 1) := by decide +kernel
theorem d_law_562 : decode code 562 = .ok (.iload_n 3, 1) := by decide +kernel
theorem d_law_563 : decode code 563 = .ok (.iconst 1, 1) := by decide +kernel
theorem d_law_564 : decode code 564 = .ok (.iadd, 1) := by decide +kernel
theorem d_law_565 : decode code 565 = .ok (.iaload, 1) := by decide +kernel
theorem d_law_566 : decode code 566 = .ok (.invokevirtual 66, 3) := by decide +kernel
theorem d_law_569 : decode code 569 = .ok (.aload_n 2, 1) := by decide +kernel
theorem d_law_570 : decode code 570 = .ok (.aload_n 0, 1) := by decide +kernel
theorem d_law_571 : decode code 571 = .ok (.iload_n 3, 1) := by decide +kernel
theorem d_law_572 : decode code 572 = .ok (.iconst 1, 1) := by decide +kernel
theorem d_law_573 : decode code 573 = .ok (.iadd, 1) := by decide +kernel
theorem d_law_574 : decode code 574 = .ok (.iaload, 1) := by decide +kernel
theorem d_law_575 : decode code 575 = .ok (.invokevirtual 69, 3) := by decide +kernel
theorem d_law_578 : decode code 578 = .ok (.if_icmp .eq 564, 3) := by decide +kernel
theorem d_law_581 : decode code 581 = .ok (.iconst 0, 1) := by decide +kernel
theorem d_law_582 : decode code 582 = .ok (.ireturn, 1) := by decide +kernel
theorem d_law_583 : decode code 583 = .ok (.aload_n 1, 1) := by decide +kernel
theorem d_law_584 : decode code 584 = .ok (.aload_n 0, 1) := by decide +kernel
theorem d_law_585 : decode code 585 = .ok (.iload_n 3, 1) := by decide +kernel
theorem d_law_586 : decode code 586 = .ok (.iconst 1, 1) := by decide +kernel
theorem d_law_587 : decode code 587 = .ok (.iadd, 1) := by decide +kernel
theorem d_law_588 : decode code 588 = .ok (.iaload, 1) := by decide +kernel
theorem d_law_589 : decode code 589 = .ok (.aload_n 0, 1) := by decide +kernel
theorem d_law_590 : decode code 590 = .ok (.iload_n 3, 1) := by decide +kernel
theorem d_law_591 : decode code 591 = .ok (.iconst 2, 1) := by decide +kernel
theorem d_law_592 : decode code 592 = .ok (.iadd, 1) := by decide +kernel
theorem d_law_593 : decode code 593 = .ok (.iaload, 1) := by decide +kernel
theorem d_law_594 : decode code 594 = .ok (.aload_n 0, 1) := by decide +kernel
theorem d_law_595 : decode code 595 = .ok (.iload_n 3, 1) := by decide +kernel
theorem d_law_596 : decode code 596 = .ok (.iconst 3, 1) := by decide +kernel
theorem d_law_597 : decode code 597 = .ok (.iadd, 1) := by decide +kernel
theorem d_law_598 : decode code 598 = .ok (.iaload, 1) := by decide +kernel
theorem d_law_599 : decode code 599 = .ok (.aload_n 0, 1) := by decide +kernel
theorem d_law_600 : decode code 600 = .ok (.iload_n 3, 1) := by decide +kernel
theorem d_law_601 : decode code 601 = .ok (.iconst 4, 1) := by decide +kernel
theorem d_law_602 : decode code 602 = .ok (.iadd, 1) := by decide +kernel
theorem d_law_603 : decode code 603 = .ok (.iaload, 1) := by decide +kernel
theorem d_law_604 : decode code 604 = .ok (.aload_n 0, 1) := by decide +kernel
theorem d_law_605 : decode code 605 = .ok (.iload_n 3, 1) := by decide +kernel
theorem d_law_606 : decode code 606 = .ok (.iconst 5, 1) := by decide +kernel
theorem d_law_607 : decode code 607 = .ok (.iadd, 1) := by decide +kernel
theorem d_law_608 : decode code 608 = .ok (.iaload, 1) := by decide +kernel
theorem d_law_609 : decode code 609 = .ok (.invokevirtual 70, 3) := by decide +kernel
theorem d_law_612 : decode code 612 = .ok (.aload_n 2, 1) := by decide +kernel
theorem d_law_613 : decode code 613 = .ok (.aload_n 0, 1) := by decide +kernel
theorem d_law_614 : decode code 614 = .ok (.iload_n 3, 1) := by decide +kernel
theorem d_law_615 : decode code 615 = .ok (.iconst 1, 1) := by decide +kernel
theorem d_law_616 : decode code 616 = .ok (.iadd, 1) := by decide +kernel
theorem d_law_617 : decode code 617 = .ok (.iaload, 1) := by decide +kernel
theorem d_law_618 : decode code 618 = .ok (.aload_n 0, 1) := by decide +kernel
theorem d_law_619 : decode code 619 = .ok (.iload_n 3, 1) := by decide +kernel
theorem d_law_620 : decode code 620 = .ok (.iconst 2, 1) := by decide +kernel
theorem d_law_621 : decode code 621 = .ok (.iadd, 1) := by decide +kernel
theorem d_law_622 : decode code 622 = .ok (.iaload, 1) := by decide +kernel
theorem d_law_623 : decode code 623 = .ok (.aload_n 0, 1) := by decide +kernel
theorem d_law_624 : decode code 624 = .ok (.iload_n 3, 1) := by decide +kernel
theorem d_law_625 : decode code 625 = .ok (.iconst 3, 1) := by decide +kernel
theorem d_law_626 : decode code 626 = .ok (.iadd, 1) := by decide +kernel
theorem d_law_627 : decode code 627 = .ok (.iaload, 1) := by decide +kernel
theorem d_law_628 : decode code 628 = .ok (.aload_n 0, 1) := by decide +kernel
theorem d_law_629 : decode code 629 = .ok (.iload_n 3, 1) := by decide +kernel
theorem d_law_630 : decode code 630 = .ok (.iconst 4, 1) := by decide +kernel
theorem d_law_631 : decode code 631 = .ok (.iadd, 1) := by decide +kernel
theorem d_law_632 : decode code 632 = .ok (.iaload, 1) := by decide +kernel
theorem d_law_633 : decode code 633 = .ok (.aload_n 0, 1) := by decide +kernel
theorem d_law_634 : decode code 634 = .ok (.iload_n 3, 1) := by decide +kernel
theorem d_law_635 : decode code 635 = .ok (.iconst 5, 1) := by decide +kernel
theorem d_law_636 : decode code 636 = .ok (.iadd, 1) := by decide +kernel
theorem d_law_637 : decode code 637 = .ok (.iaload, 1) := by decide +kernel
theorem d_law_638 : decode code 638 = .ok (.invokevirtual 73, 3) := by decide +kernel
theorem d_law_641 : decode code 641 = .ok (.if_icmp .eq 501, 3) := by decide +kernel
theorem d_law_644 : decode code 644 = .ok (.iconst 0, 1) := by decide +kernel
theorem d_law_645 : decode code 645 = .ok (.ireturn, 1) := by decide +kernel
theorem d_law_646 : decode code 646 = .ok (.aload_n 1, 1) := by decide +kernel
theorem d_law_647 : decode code 647 = .ok (.aload_n 0, 1) := by decide +kernel
theorem d_law_648 : decode code 648 = .ok (.iload_n 3, 1) := by decide +kernel
theorem d_law_649 : decode code 649 = .ok (.iconst 1, 1) := by decide +kernel
theorem d_law_650 : decode code 650 = .ok (.iadd, 1) := by decide +kernel
theorem d_law_651 : decode code 651 = .ok (.iaload, 1) := by decide +kernel
theorem d_law_652 : decode code 652 = .ok (.aload_n 0, 1) := by decide +kernel
theorem d_law_653 : decode code 653 = .ok (.iload_n 3, 1) := by decide +kernel
theorem d_law_654 : decode code 654 = .ok (.iconst 2, 1) := by decide +kernel
theorem d_law_655 : decode code 655 = .ok (.iadd, 1) := by decide +kernel
theorem d_law_656 : decode code 656 = .ok (.iaload, 1) := by decide +kernel
theorem d_law_657 : decode code 657 = .ok (.aload_n 0, 1) := by decide +kernel
theorem d_law_658 : decode code 658 = .ok (.iload_n 3, 1) := by decide +kernel
theorem d_law_659 : decode code 659 = .ok (.iconst 3, 1) := by decide +kernel
theorem d_law_660 : decode code 660 = .ok (.iadd, 1) := by decide +kernel
theorem d_law_661 : decode code 661 = .ok (.iaload, 1) := by decide +kernel
theorem d_law_662 : decode code 662 = .ok (.aload_n 0, 1) := by decide +kernel
theorem d_law_663 : decode code 663 = .ok (.iload_n 3, 1) := by decide +kernel
theorem d_law_664 : decode code 664 = .ok (.iconst 4, 1) := by decide +kernel
theorem d_law_665 : decode code 665 = .ok (.iadd, 1) := by decide +kernel
theorem d_law_666 : decode code 666 = .ok (.iaload, 1) := by decide +kernel
theorem d_law_667 : decode code 667 = .ok (.invokevirtual 74, 3) := by decide +kernel
theorem d_law_670 : decode code 670 = .ok (.aload_n 2, 1) := by decide +kernel
theorem d_law_671 : decode code 671 = .ok (.aload_n 0, 1) := by decide +kernel
theorem d_law_672 : decode code 672 = .ok (.iload_n 3, 1) := by decide +kernel
theorem d_law_673 : decode code 673 = .ok (.iconst 1, 1) := by decide +kernel
theorem d_law_674 : decode code 674 = .ok (.iadd, 1) := by decide +kernel
theorem d_law_675 : decode code 675 = .ok (.iaload, 1) := by decide +kernel
theorem d_law_676 : decode code 676 = .ok (.aload_n 0, 1) := by decide +kernel
theorem d_law_677 : decode code 677 = .ok (.iload_n 3, 1) := by decide +kernel
theorem d_law_678 : decode code 678 = .ok (.iconst 2, 1) := by decide +kernel
theorem d_law_679 : decode code 679 = .ok (.iadd, 1) := by decide +kernel
theorem d_law_680 : decode code 680 = .ok (.iaload, 1) := by decide +kernel
theorem d_law_681 : decode code 681 = .ok (.aload_n 0, 1) := by decide +kernel
theorem d_law_682 : decode code 682 = .ok (.iload_n 3, 1) := by decide +kernel
theorem d_law_683 : decode code 683 = .ok (.iconst 3, 1) := by decide +kernel
theorem d_law_684 : decode code 684 = .ok (.iadd, 1) := by decide +kernel
theorem d_law_685 : decode code 685 = .ok (.iaload, 1) := by decide +kernel
theorem d_law_686 : decode code 686 = .ok (.aload_n 0, 1) := by decide +kernel
theorem d_law_687 : decode code 687 = .ok (.iload_n 3, 1) := by decide +kernel
theorem d_law_688 : decode code 688 = .ok (.iconst 4, 1) := by decide +kernel
theorem d_law_689 : decode code 689 = .ok (.iadd, 1) := by decide +kernel
theorem d_law_690 : decode code 690 = .ok (.iaload, 1) := by decide +kernel
theorem d_law_691 : decode code 691 = .ok (.invokevirtual 78, 3) := by decide +kernel
theorem d_law_694 : decode code 694 = .ok (.if_icmp .eq 448, 3) := by decide +kernel
theorem d_law_697 : decode code 697 = .ok (.iconst 0, 1) := by decide +kernel
theorem d_law_698 : decode code 698 = .ok (.ireturn, 1) := by decide +kernel
theorem d_law_699 : decode code 699 = .ok (.aload_n 1, 1) := by decide +kernel
theorem d_law_700 : decode code 700 = .ok (.aload_n 0, 1) := by decide +kernel
theorem d_law_701 : decode code 701 = .ok (.iload_n 3, 1) := by decide +kernel
theorem d_law_702 : decode code 702 = .ok (.iconst 1, 1) := by decide +kernel
theorem d_law_703 : decode code 703 = .ok (.iadd, 1) := by decide +kernel
theorem d_law_704 : decode code 704 = .ok (.iaload, 1) := by decide +kernel
theorem d_law_705 : decode code 705 = .ok (.invokevirtual 79, 3) := by decide +kernel
theorem d_law_708 : decode code 708 = .ok (.aload_n 2, 1) := by decide +kernel
theorem d_law_709 : decode code 709 = .ok (.aload_n 0, 1) := by decide +kernel
theorem d_law_710 : decode code 710 = .ok (.iload_n 3, 1) := by decide +kernel
theorem d_law_711 : decode code 711 = .ok (.iconst 1, 1) := by decide +kernel
theorem d_law_712 : decode code 712 = .ok (.iadd, 1) := by decide +kernel
theorem d_law_713 : decode code 713 = .ok (.iaload, 1) := by decide +kernel
theorem d_law_714 : decode code 714 = .ok (.invokevirtual 82, 3) := by decide +kernel
theorem d_law_717 : decode code 717 = .ok (.if_icmp .eq 425, 3) := by decide +kernel
theorem d_law_720 : decode code 720 = .ok (.iconst 0, 1) := by decide +kernel
theorem d_law_721 : decode code 721 = .ok (.ireturn, 1) := by decide +kernel
theorem d_law_722 : decode code 722 = .ok (.aload_n 1, 1) := by decide +kernel
theorem d_law_723 : decode code 723 = .ok (.aload_n 0, 1) := by decide +kernel
theorem d_law_724 : decode code 724 = .ok (.iload_n 3, 1) := by decide +kernel
theorem d_law_725 : decode code 725 = .ok (.iconst 1, 1) := by decide +kernel
theorem d_law_726 : decode code 726 = .ok (.iadd, 1) := by decide +kernel
theorem d_law_727 : decode code 727 = .ok (.iaload, 1) := by decide +kernel
theorem d_law_728 : decode code 728 = .ok (.aload_n 0, 1) := by decide +kernel
theorem d_law_729 : decode code 729 = .ok (.iload_n 3, 1) := by decide +kernel
theorem d_law_730 : decode code 730 = .ok (.iconst 2, 1) := by decide +kernel
theorem d_law_731 : decode code 731 = .ok (.iadd, 1) := by decide +kernel
theorem d_law_732 : decode code 732 = .ok (.iaload, 1) := by decide +kernel
theorem d_law_733 : decode code 733 = .ok (.invokevirtual 83, 3) := by decide +kernel
theorem d_law_736 : decode code 736 = .ok (.aload_n 2, 1) := by decide +kernel
theorem d_law_737 : decode code 737 = .ok (.aload_n 0, 1) := by decide +kernel
theorem d_law_738 : decode code 738 = .ok (.iload_n 3, 1) := by decide +kernel
theorem d_law_739 : decode code 739 = .ok (.iconst 1, 1) := by decide +kernel
theorem d_law_740 : decode code 740 = .ok (.iadd, 1) := by decide +kernel
theorem d_law_741 : decode code 741 = .ok (.iaload, 1) := by decide +kernel
theorem d_law_742 : decode code 742 = .ok (.aload_n 0, 1) := by decide +kernel
theorem d_law_743 : decode code 743 = .ok (.iload_n 3, 1) := by decide +kernel
theorem d_law_744 : decode code 744 = .ok (.iconst 2, 1) := by decide +kernel
theorem d_law_745 : decode code 745 = .ok (.iadd, 1) := by decide +kernel
theorem d_law_746 : decode code 746 = .ok (.iaload, 1) := by decide +kernel
theorem d_law_747 : decode code 747 = .ok (.invokevirtual 86, 3) := by decide +kernel
theorem d_law_750 : decode code 750 = .ok (.if_icmp .eq 392, 3) := by decide +kernel
theorem d_law_753 : decode code 753 = .ok (.iconst 0, 1) := by decide +kernel
theorem d_law_754 : decode code 754 = .ok (.ireturn, 1) := by decide +kernel
theorem d_law_755 : decode code 755 = .ok (.aload_n 1, 1) := by decide +kernel
theorem d_law_756 : decode code 756 = .ok (.aload_n 0, 1) := by decide +kernel
theorem d_law_757 : decode code 757 = .ok (.iload_n 3, 1) := by decide +kernel
theorem d_law_758 : decode code 758 = .ok (.iconst 1, 1) := by decide +kernel
theorem d_law_759 : decode code 759 = .ok (.iadd, 1) := by decide +kernel
theorem d_law_760 : decode code 760 = .ok (.iaload, 1) := by decide +kernel
theorem d_law_761 : decode code 761 = .ok (.aload_n 0, 1) := by decide +kernel
theorem d_law_762 : decode code 762 = .ok (.iload_n 3, 1) := by decide +kernel
theorem d_law_763 : decode code 763 = .ok (.iconst 2, 1) := by decide +kernel
theorem d_law_764 : decode code 764 = .ok (.iadd, 1) := by decide +kernel
theorem d_law_765 : decode code 765 = .ok (.iaload, 1) := by decide +kernel
theorem d_law_766 : decode code 766 = .ok (.aload_n 0, 1) := by decide +kernel
theorem d_law_767 : decode code 767 = .ok (.iload_n 3, 1) := by decide +kernel
theorem d_law_768 : decode code 768 = .ok (.iconst 3, 1) := by decide +kernel
theorem d_law_769 : decode code 769 = .ok (.iadd, 1) := by decide +kernel
theorem d_law_770 : decode code 770 = .ok (.iaload, 1) := by decide +kernel
theorem d_law_771 : decode code 771 = .ok (.aload_n 0, 1) := by decide +kernel
theorem d_law_772 : decode code 772 = .ok (.iload_n 3, 1) := by decide +kernel
theorem d_law_773 : decode code 773 = .ok (.iconst 4, 1) := by decide +kernel
theorem d_law_774 : decode code 774 = .ok (.iadd, 1) := by decide +kernel
theorem d_law_775 : decode code 775 = .ok (.iaload, 1) := by decide +kernel
theorem d_law_776 : decode code 776 = .ok (.aload_n 0, 1) := by decide +kernel
theorem d_law_777 : decode code 777 = .ok (.iload_n 3, 1) := by decide +kernel
theorem d_law_778 : decode code 778 = .ok (.iconst 5, 1) := by decide +kernel
theorem d_law_779 : decode code 779 = .ok (.iadd, 1) := by decide +kernel
theorem d_law_780 : decode code 780 = .ok (.iaload, 1) := by decide +kernel
theorem d_law_781 : decode code 781 = .ok (.invokevirtual 87, 3) := by decide +kernel
theorem d_law_784 : decode code 784 = .ok (.aload_n 2, 1) := by decide +kernel
theorem d_law_785 : decode code 785 = .ok (.aload_n 0, 1) := by decide +kernel
theorem d_law_786 : decode code 786 = .ok (.iload_n 3, 1) := by decide +kernel
theorem d_law_787 : decode code 787 = .ok (.iconst 1, 1) := by decide +kernel
theorem d_law_788 : decode code 788 = .ok (.iadd, 1) := by decide +kernel
theorem d_law_789 : decode code 789 = .ok (.iaload, 1) := by decide +kernel
theorem d_law_790 : decode code 790 = .ok (.aload_n 0, 1) := by decide +kernel
theorem d_law_791 : decode code 791 = .ok (.iload_n 3, 1) := by decide +kernel
theorem d_law_792 : decode code 792 = .ok (.iconst 2, 1) := by decide +kernel
theorem d_law_793 : decode code 793 = .ok (.iadd, 1) := by decide +kernel
theorem d_law_794 : decode code 794 = .ok (.iaload, 1) := by decide +kernel
theorem d_law_795 : decode code 795 = .ok (.aload_n 0, 1) := by decide +kernel
theorem d_law_796 : decode code 796 = .ok (.iload_n 3, 1) := by decide +kernel
theorem d_law_797 : decode code 797 = .ok (.iconst 3, 1) := by decide +kernel
theorem d_law_798 : decode code 798 = .ok (.iadd, 1) := by decide +kernel
theorem d_law_799 : decode code 799 = .ok (.iaload, 1) := by decide +kernel
theorem d_law_800 : decode code 800 = .ok (.aload_n 0, 1) := by decide +kernel
theorem d_law_801 : decode code 801 = .ok (.iload_n 3, 1) := by decide +kernel
theorem d_law_802 : decode code 802 = .ok (.iconst 4, 1) := by decide +kernel
theorem d_law_803 : decode code 803 = .ok (.iadd, 1) := by decide +kernel
theorem d_law_804 : decode code 804 = .ok (.iaload, 1) := by decide +kernel
theorem d_law_805 : decode code 805 = .ok (.aload_n 0, 1) := by decide +kernel
theorem d_law_806 : decode code 806 = .ok (.iload_n 3, 1) := by decide +kernel
theorem d_law_807 : decode code 807 = .ok (.iconst 5, 1) := by decide +kernel
theorem d_law_808 : decode code 808 = .ok (.iadd, 1) := by decide +kernel
theorem d_law_809 : decode code 809 = .ok (.iaload, 1) := by decide +kernel
theorem d_law_810 : decode code 810 = .ok (.invokevirtual 90, 3) := by decide +kernel
theorem d_law_813 : decode code 813 = .ok (.if_icmp .eq 329, 3) := by decide +kernel
theorem d_law_816 : decode code 816 = .ok (.iconst 0, 1) := by decide +kernel
theorem d_law_817 : decode code 817 = .ok (.ireturn, 1) := by decide +kernel
theorem d_law_818 : decode code 818 = .ok (.aload_n 1, 1) := by decide +kernel
theorem d_law_819 : decode code 819 = .ok (.aload_n 0, 1) := by decide +kernel
theorem d_law_820 : decode code 820 = .ok (.iload_n 3, 1) := by decide +kernel
theorem d_law_821 : decode code 821 = .ok (.iconst 1, 1) := by decide +kernel
theorem d_law_822 : decode code 822 = .ok (.iadd, 1) := by decide +kernel
theorem d_law_823 : decode code 823 = .ok (.iaload, 1) := by decide +kernel
theorem d_law_824 : decode code 824 = .ok (.aload_n 0, 1) := by decide +kernel
theorem d_law_825 : decode code 825 = .ok (.iload_n 3, 1) := by decide +kernel
theorem d_law_826 : decode code 826 = .ok (.iconst 2, 1) := by decide +kernel
theorem d_law_827 : decode code 827 = .ok (.iadd, 1) := by decide +kernel
theorem d_law_828 : decode code 828 = .ok (.iaload, 1) := by decide +kernel
theorem d_law_829 : decode code 829 = .ok (.aload_n 0, 1) := by decide +kernel
theorem d_law_830 : decode code 830 = .ok (.iload_n 3, 1) := by decide +kernel
theorem d_law_831 : decode code 831 = .ok (.iconst 3, 1) := by decide +kernel
theorem d_law_832 : decode code 832 = .ok (.iadd, 1) := by decide +kernel
theorem d_law_833 : decode code 833 = .ok (.iaload, 1) := by decide +kernel
theorem d_law_834 : decode code 834 = .ok (.aload_n 0, 1) := by decide +kernel
theorem d_law_835 : decode code 835 = .ok (.iload_n 3, 1) := by decide +kernel
theorem d_law_836 : decode code 836 = .ok (.iconst 4, 1) := by decide +kernel
theorem d_law_837 : decode code 837 = .ok (.iadd, 1) := by decide +kernel
theorem d_law_838 : decode code 838 = .ok (.iaload, 1) := by decide +kernel
theorem d_law_839 : decode code 839 = .ok (.invokevirtual 91, 3) := by decide +kernel
theorem d_law_842 : decode code 842 = .ok (.aload_n 2, 1) := by decide +kernel
theorem d_law_843 : decode code 843 = .ok (.aload_n 0, 1) := by decide +kernel
theorem d_law_844 : decode code 844 = .ok (.iload_n 3, 1) := by decide +kernel
theorem d_law_845 : decode code 845 = .ok (.iconst 1, 1) := by decide +kernel
theorem d_law_846 : decode code 846 = .ok (.iadd, 1) := by decide +kernel
theorem d_law_847 : decode code 847 = .ok (.iaload, 1) := by decide +kernel
theorem d_law_848 : decode code 848 = .ok (.aload_n 0, 1) := by decide +kernel
theorem d_law_849 : decode code 849 = .ok (.iload_n 3, 1) := by decide +kernel
theorem d_law_850 : decode code 850 = .ok (.iconst 2, 1) := by decide +kernel
theorem d_law_851 : decode code 851 = .ok (.iadd, 1) := by decide +kernel
theorem d_law_852 : decode code 852 = .ok (.iaload, 1) := by decide +kernel
theorem d_law_853 : decode code 853 = .ok (.aload_n 0, 1) := by decide +kernel
theorem d_law_854 : decode code 854 = .ok (.iload_n 3, 1) := by decide +kernel
theorem d_law_855 : decode code 855 = .ok (.iconst 3, 1) := by decide +kernel
theorem d_law_856 : decode code 856 = .ok (.iadd, 1) := by decide +kernel
theorem d_law_857 : decode code 857 = .ok (.iaload, 1) := by decide +kernel
theorem d_law_858 : decode code 858 = .ok (.aload_n 0, 1) := by decide +kernel
theorem d_law_859 : decode code 859 = .ok (.iload_n 3, 1) := by decide +kernel
theorem d_law_860 : decode code 860 = .ok (.iconst 4, 1) := by decide +kernel
theorem d_law_861 : decode code 861 = .ok (.iadd, 1) := by decide +kernel
theorem d_law_862 : decode code 862 = .ok (.iaload, 1) := by decide +kernel
theorem d_law_863 : decode code 863 = .ok (.invokevirtual 94, 3) := by decide +kernel
theorem d_law_866 : decode code 866 = .ok (.if_icmp .eq 276, 3) := by decide +kernel
theorem d_law_869 : decode code 869 = .ok (.iconst 0, 1) := by decide +kernel
theorem d_law_870 : decode code 870 = .ok (.ireturn, 1) := by decide +kernel
theorem d_law_871 : decode code 871 = .ok (.aload_n 1, 1) := by decide +kernel
theorem d_law_872 : decode code 872 = .ok (.aload_n 0, 1) := by decide +kernel
theorem d_law_873 : decode code 873 = .ok (.iload_n 3, 1) := by decide +kernel
theorem d_law_874 : decode code 874 = .ok (.iconst 1, 1) := by decide +kernel
theorem d_law_875 : decode code 875 = .ok (.iadd, 1) := by decide +kernel
theorem d_law_876 : decode code 876 = .ok (.iaload, 1) := by decide +kernel
theorem d_law_877 : decode code 877 = .ok (.aload_n 0, 1) := by decide +kernel
theorem d_law_878 : decode code 878 = .ok (.iload_n 3, 1) := by decide +kernel
theorem d_law_879 : decode code 879 = .ok (.iconst 2, 1) := by decide +kernel
theorem d_law_880 : decode code 880 = .ok (.iadd, 1) := by decide +kernel
theorem d_law_881 : decode code 881 = .ok (.iaload, 1) := by decide +kernel
theorem d_law_882 : decode code 882 = .ok (.aload_n 0, 1) := by decide +kernel
theorem d_law_883 : decode code 883 = .ok (.iload_n 3, 1) := by decide +kernel
theorem d_law_884 : decode code 884 = .ok (.iconst 3, 1) := by decide +kernel
theorem d_law_885 : decode code 885 = .ok (.iadd, 1) := by decide +kernel
theorem d_law_886 : decode code 886 = .ok (.iaload, 1) := by decide +kernel
theorem d_law_887 : decode code 887 = .ok (.invokevirtual 95, 3) := by decide +kernel
theorem d_law_890 : decode code 890 = .ok (.aload_n 2, 1) := by decide +kernel
theorem d_law_891 : decode code 891 = .ok (.aload_n 0, 1) := by decide +kernel
theorem d_law_892 : decode code 892 = .ok (.iload_n 3, 1) := by decide +kernel
theorem d_law_893 : decode code 893 = .ok (.iconst 1, 1) := by decide +kernel
theorem d_law_894 : decode code 894 = .ok (.iadd, 1) := by decide +kernel
theorem d_law_895 : decode code 895 = .ok (.iaload, 1) := by decide +kernel
theorem d_law_896 : decode code 896 = .ok (.aload_n 0, 1) := by decide +kernel
theorem d_law_897 : decode code 897 = .ok (.iload_n 3, 1) := by decide +kernel
theorem d_law_898 : decode code 898 = .ok (.iconst 2, 1) := by decide +kernel
theorem d_law_899 : decode code 899 = .ok (.iadd, 1) := by decide +kernel
theorem d_law_900 : decode code 900 = .ok (.iaload, 1) := by decide +kernel
theorem d_law_901 : decode code 901 = .ok (.aload_n 0, 1) := by decide +kernel
theorem d_law_902 : decode code 902 = .ok (.iload_n 3, 1) := by decide +kernel
theorem d_law_903 : decode code 903 = .ok (.iconst 3, 1) := by decide +kernel
theorem d_law_904 : decode code 904 = .ok (.iadd, 1) := by decide +kernel
theorem d_law_905 : decode code 905 = .ok (.iaload, 1) := by decide +kernel
theorem d_law_906 : decode code 906 = .ok (.invokevirtual 99, 3) := by decide +kernel
theorem d_law_909 : decode code 909 = .ok (.if_icmp .eq 233, 3) := by decide +kernel
theorem d_law_912 : decode code 912 = .ok (.iconst 0, 1) := by decide +kernel
theorem d_law_913 : decode code 913 = .ok (.ireturn, 1) := by decide +kernel
theorem d_law_914 : decode code 914 = .ok (.aload_n 1, 1) := by decide +kernel
theorem d_law_915 : decode code 915 = .ok (.aload_n 0, 1) := by decide +kernel
theorem d_law_916 : decode code 916 = .ok (.iload_n 3, 1) := by decide +kernel
theorem d_law_917 : decode code 917 = .ok (.iconst 1, 1) := by decide +kernel
theorem d_law_918 : decode code 918 = .ok (.iadd, 1) := by decide +kernel
theorem d_law_919 : decode code 919 = .ok (.iaload, 1) := by decide +kernel
theorem d_law_920 : decode code 920 = .ok (.aload_n 0, 1) := by decide +kernel
theorem d_law_921 : decode code 921 = .ok (.iload_n 3, 1) := by decide +kernel
theorem d_law_922 : decode code 922 = .ok (.iconst 2, 1) := by decide +kernel
theorem d_law_923 : decode code 923 = .ok (.iadd, 1) := by decide +kernel
theorem d_law_924 : decode code 924 = .ok (.iaload, 1) := by decide +kernel
theorem d_law_925 : decode code 925 = .ok (.aload_n 0, 1) := by decide +kernel
theorem d_law_926 : decode code 926 = .ok (.iload_n 3, 1) := by decide +kernel
theorem d_law_927 : decode code 927 = .ok (.iconst 3, 1) := by decide +kernel
theorem d_law_928 : decode code 928 = .ok (.iadd, 1) := by decide +kernel
theorem d_law_929 : decode code 929 = .ok (.iaload, 1) := by decide +kernel
theorem d_law_930 : decode code 930 = .ok (.invokevirtual 100, 3) := by decide +kernel
theorem d_law_933 : decode code 933 = .ok (.aload_n 2, 1) := by decide +kernel
theorem d_law_934 : decode code 934 = .ok (.aload_n 0, 1) := by decide +kernel
theorem d_law_935 : decode code 935 = .ok (.iload_n 3, 1) := by decide +kernel
theorem d_law_936 : decode code 936 = .ok (.iconst 1, 1) := by decide +kernel
theorem d_law_937 : decode code 937 = .ok (.iadd, 1) := by decide +kernel
theorem d_law_938 : decode code 938 = .ok (.iaload, 1) := by decide +kernel
theorem d_law_939 : decode code 939 = .ok (.aload_n 0, 1) := by decide +kernel
theorem d_law_940 : decode code 940 = .ok (.iload_n 3, 1) := by decide +kernel
theorem d_law_941 : decode code 941 = .ok (.iconst 2, 1) := by decide +kernel
theorem d_law_942 : decode code 942 = .ok (.iadd, 1) := by decide +kernel
theorem d_law_943 : decode code 943 = .ok (.iaload, 1) := by decide +kernel
theorem d_law_944 : decode code 944 = .ok (.aload_n 0, 1) := by decide +kernel
theorem d_law_945 : decode code 945 = .ok (.iload_n 3, 1) := by decide +kernel
theorem d_law_946 : decode code 946 = .ok (.iconst 3, 1) := by decide +kernel
theorem d_law_947 : decode code 947 = .ok (.iadd, 1) := by decide +kernel
theorem d_law_948 : decode code 948 = .ok (.iaload, 1) := by decide +kernel
theorem d_law_949 : decode code 949 = .ok (.invokevirtual 103, 3) := by decide +kernel
theorem d_law_952 : decode code 952 = .ok (.if_icmp .eq 190, 3) := by decide +kernel
theorem d_law_955 : decode code 955 = .ok (.iconst 0, 1) := by decide +kernel
theorem d_law_956 : decode code 956 = .ok (.ireturn, 1) := by decide +kernel
theorem d_law_957 : decode code 957 = .ok (.aload_n 1, 1) := by decide +kernel
theorem d_law_958 : decode code 958 = .ok (.aload_n 0, 1) := by decide +kernel
theorem d_law_959 : decode code 959 = .ok (.iload_n 3, 1) := by decide +kernel
theorem d_law_960 : decode code 960 = .ok (.iconst 1, 1) := by decide +kernel
theorem d_law_961 : decode code 961 = .ok (.iadd, 1) := by decide +kernel
theorem d_law_962 : decode code 962 = .ok (.iaload, 1) := by decide +kernel
theorem d_law_963 : decode code 963 = .ok (.aload_n 0, 1) := by decide +kernel
theorem d_law_964 : decode code 964 = .ok (.iload_n 3, 1) := by decide +kernel
theorem d_law_965 : decode code 965 = .ok (.iconst 2, 1) := by decide +kernel
theorem d_law_966 : decode code 966 = .ok (.iadd, 1) := by decide +kernel
theorem d_law_967 : decode code 967 = .ok (.iaload, 1) := by decide +kernel
theorem d_law_968 : decode code 968 = .ok (.aload_n 0, 1) := by decide +kernel
theorem d_law_969 : decode code 969 = .ok (.iload_n 3, 1) := by decide +kernel
theorem d_law_970 : decode code 970 = .ok (.iconst 3, 1) := by decide +kernel
theorem d_law_971 : decode code 971 = .ok (.iadd, 1) := by decide +kernel
theorem d_law_972 : decode code 972 = .ok (.iaload, 1) := by decide +kernel
theorem d_law_973 : decode code 973 = .ok (.aload_n 0, 1) := by decide +kernel
theorem d_law_974 : decode code 974 = .ok (.iload_n 3, 1) := by decide +kernel
theorem d_law_975 : decode code 975 = .ok (.iconst 4, 1) := by decide +kernel
theorem d_law_976 : decode code 976 = .ok (.iadd, 1) := by decide +kernel
theorem d_law_977 : decode code 977 = .ok (.iaload, 1) := by decide +kernel
theorem d_law_978 : decode code 978 = .ok (.invokevirtual 104, 3) := by decide +kernel
theorem d_law_981 : decode code 981 = .ok (.aload_n 2, 1) := by decide +kernel
theorem d_law_982 : decode code 982 = .ok (.aload_n 0, 1) := by decide +kernel
theorem d_law_983 : decode code 983 = .ok (.iload_n 3, 1) := by decide +kernel
theorem d_law_984 : decode code 984 = .ok (.iconst 1, 1) := by decide +kernel
theorem d_law_985 : decode code 985 = .ok (.iadd, 1) := by decide +kernel
theorem d_law_986 : decode code 986 = .ok (.iaload, 1) := by decide +kernel
theorem d_law_987 : decode code 987 = .ok (.aload_n 0, 1) := by decide +kernel
theorem d_law_988 : decode code 988 = .ok (.iload_n 3, 1) := by decide +kernel
theorem d_law_989 : decode code 989 = .ok (.iconst 2, 1) := by decide +kernel
theorem d_law_990 : decode code 990 = .ok (.iadd, 1) := by decide +kernel
theorem d_law_991 : decode code 991 = .ok (.iaload, 1) := by decide +kernel
theorem d_law_992 : decode code 992 = .ok (.aload_n 0, 1) := by decide +kernel
theorem d_law_993 : decode code 993 = .ok (.iload_n 3, 1) := by decide +kernel
theorem d_law_994 : decode code 994 = .ok (.iconst 3, 1) := by decide +kernel
theorem d_law_995 : decode code 995 = .ok (.iadd, 1) := by decide +kernel
theorem d_law_996 : decode code 996 = .ok (.iaload, 1) := by decide +kernel
theorem d_law_997 : decode code 997 = .ok (.aload_n 0, 1) := by decide +kernel
theorem d_law_998 : decode code 998 = .ok (.iload_n 3, 1) := by decide +kernel
theorem d_law_999 : decode code 999 = .ok (.iconst 4, 1) := by decide +kernel
theorem d_law_1000 : decode code 1000 = .ok (.iadd, 1) := by decide +kernel
theorem d_law_1001 : decode code 1001 = .ok (.iaload, 1) := by decide +kernel
theorem d_law_1002 : decode code 1002 = .ok (.invokevirtual 107, 3) := by decide +kernel
theorem d_law_1005 : decode code 1005 = .ok (.if_icmp .eq 137, 3) := by decide +kernel
theorem d_law_1008 : decode code 1008 = .ok (.iconst 0, 1) := by decide +kernel
theorem d_law_1009 : decode code 1009 = .ok (.ireturn, 1) := by decide +kernel
theorem d_law_1010 : decode code 1010 = .ok (.aload_n 1, 1) := by decide +kernel
theorem d_law_1011 : decode code 1011 = .ok (.aload_n 0, 1) := by decide +kernel
theorem d_law_1012 : decode code 1012 = .ok (.iload_n 3, 1) := by decide +kernel
theorem d_law_1013 : decode code 1013 = .ok (.iconst 1, 1) := by decide +kernel
theorem d_law_1014 : decode code 1014 = .ok (.iadd, 1) := by decide +kernel
theorem d_law_1015 : decode code 1015 = .ok (.iaload, 1) := by decide +kernel
theorem d_law_1016 : decode code 1016 = .ok (.aload_n 0, 1) := by decide +kernel
theorem d_law_1017 : decode code 1017 = .ok (.iload_n 3, 1) := by decide +kernel
theorem d_law_1018 : decode code 1018 = .ok (.iconst 2, 1) := by decide +kernel
theorem d_law_1019 : decode code 1019 = .ok (.iadd, 1) := by decide +kernel
theorem d_law_1020 : decode code 1020 = .ok (.iaload, 1) := by decide +kernel
theorem d_law_1021 : decode code 1021 = .ok (.aload_n 0, 1) := by decide +kernel
theorem d_law_1022 : decode code 1022 = .ok (.iload_n 3, 1) := by decide +kernel
theorem d_law_1023 : decode code 1023 = .ok (.iconst 3, 1) := by decide +kernel
theorem d_law_1024 : decode code 1024 = .ok (.iadd, 1) := by decide +kernel
theorem d_law_1025 : decode code 1025 = .ok (.iaload, 1) := by decide +kernel
theorem d_law_1026 : decode code 1026 = .ok (.aload_n 0, 1) := by decide +kernel
theorem d_law_1027 : decode code 1027 = .ok (.iload_n 3, 1) := by decide +kernel
theorem d_law_1028 : decode code 1028 = .ok (.iconst 4, 1) := by decide +kernel
theorem d_law_1029 : decode code 1029 = .ok (.iadd, 1) := by decide +kernel
theorem d_law_1030 : decode code 1030 = .ok (.iaload, 1) := by decide +kernel
theorem d_law_1031 : decode code 1031 = .ok (.invokevirtual 108, 3) := by decide +kernel
theorem d_law_1034 : decode code 1034 = .ok (.aload_n 2, 1) := by decide +kernel
theorem d_law_1035 : decode code 1035 = .ok (.aload_n 0, 1) := by decide +kernel
theorem d_law_1036 : decode code 1036 = .ok (.iload_n 3, 1) := by decide +kernel
theorem d_law_1037 : decode code 1037 = .ok (.iconst 1, 1) := by decide +kernel
theorem d_law_1038 : decode code 1038 = .ok (.iadd, 1) := by decide +kernel
theorem d_law_1039 : decode code 1039 = .ok (.iaload, 1) := by decide +kernel
theorem d_law_1040 : decode code 1040 = .ok (.aload_n 0, 1) := by decide +kernel
theorem d_law_1041 : decode code 1041 = .ok (.iload_n 3, 1) := by decide +kernel
theorem d_law_1042 : decode code 1042 = .ok (.iconst 2, 1) := by decide +kernel
theorem d_law_1043 : decode code 1043 = .ok (.iadd, 1) := by decide +kernel
theorem d_law_1044 : decode code 1044 = .ok (.iaload, 1) := by decide +kernel
theorem d_law_1045 : decode code 1045 = .ok (.aload_n 0, 1) := by decide +kernel
theorem d_law_1046 : decode code 1046 = .ok (.iload_n 3, 1) := by decide +kernel
theorem d_law_1047 : decode code 1047 = .ok (.iconst 3, 1) := by decide +kernel
theorem d_law_1048 : decode code 1048 = .ok (.iadd, 1) := by decide +kernel
theorem d_law_1049 : decode code 1049 = .ok (.iaload, 1) := by decide +kernel
theorem d_law_1050 : decode code 1050 = .ok (.aload_n 0, 1) := by decide +kernel
theorem d_law_1051 : decode code 1051 = .ok (.iload_n 3, 1) := by decide +kernel
theorem d_law_1052 : decode code 1052 = .ok (.iconst 4, 1) := by decide +kernel
theorem d_law_1053 : decode code 1053 = .ok (.iadd, 1) := by decide +kernel
theorem d_law_1054 : decode code 1054 = .ok (.iaload, 1) := by decide +kernel
theorem d_law_1055 : decode code 1055 = .ok (.invokevirtual 111, 3) := by decide +kernel
theorem d_law_1058 : decode code 1058 = .ok (.if_icmp .eq 84, 3) := by decide +kernel
theorem d_law_1061 : decode code 1061 = .ok (.iconst 0, 1) := by decide +kernel
theorem d_law_1062 : decode code 1062 = .ok (.ireturn, 1) := by decide +kernel
theorem d_law_1063 : decode code 1063 = .ok (.aload_n 1, 1) := by decide +kernel
theorem d_law_1064 : decode code 1064 = .ok (.aload_n 0, 1) := by decide +kernel
theorem d_law_1065 : decode code 1065 = .ok (.iload_n 3, 1) := by decide +kernel
theorem d_law_1066 : decode code 1066 = .ok (.iconst 1, 1) := by decide +kernel
theorem d_law_1067 : decode code 1067 = .ok (.iadd, 1) := by decide +kernel
theorem d_law_1068 : decode code 1068 = .ok (.iaload, 1) := by decide +kernel
theorem d_law_1069 : decode code 1069 = .ok (.aload_n 0, 1) := by decide +kernel
theorem d_law_1070 : decode code 1070 = .ok (.iload_n 3, 1) := by decide +kernel
theorem d_law_1071 : decode code 1071 = .ok (.iconst 2, 1) := by decide +kernel
theorem d_law_1072 : decode code 1072 = .ok (.iadd, 1) := by decide +kernel
theorem d_law_1073 : decode code 1073 = .ok (.iaload, 1) := by decide +kernel
theorem d_law_1074 : decode code 1074 = .ok (.invokevirtual 112, 3) := by decide +kernel
theorem d_law_1077 : decode code 1077 = .ok (.aload_n 2, 1) := by decide +kernel
theorem d_law_1078 : decode code 1078 = .ok (.aload_n 0, 1) := by decide +kernel
theorem d_law_1079 : decode code 1079 = .ok (.iload_n 3, 1) := by decide +kernel
theorem d_law_1080 : decode code 1080 = .ok (.iconst 1, 1) := by decide +kernel
theorem d_law_1081 : decode code 1081 = .ok (.iadd, 1) := by decide +kernel
theorem d_law_1082 : decode code 1082 = .ok (.iaload, 1) := by decide +kernel
theorem d_law_1083 : decode code 1083 = .ok (.aload_n 0, 1) := by decide +kernel
theorem d_law_1084 : decode code 1084 = .ok (.iload_n 3, 1) := by decide +kernel
theorem d_law_1085 : decode code 1085 = .ok (.iconst 2, 1) := by decide +kernel
theorem d_law_1086 : decode code 1086 = .ok (.iadd, 1) := by decide +kernel
theorem d_law_1087 : decode code 1087 = .ok (.iaload, 1) := by decide +kernel
theorem d_law_1088 : decode code 1088 = .ok (.invokevirtual 115, 3) := by decide +kernel
theorem d_law_1091 : decode code 1091 = .ok (.if_icmp .eq 51, 3) := by decide +kernel
theorem d_law_1094 : decode code 1094 = .ok (.iconst 0, 1) := by decide +kernel
theorem d_law_1095 : decode code 1095 = .ok (.ireturn, 1) := by decide +kernel
theorem d_law_1096 : decode code 1096 = .ok (.aload_n 1, 1) := by decide +kernel
theorem d_law_1097 : decode code 1097 = .ok (.aload_n 0, 1) := by decide +kernel
theorem d_law_1098 : decode code 1098 = .ok (.iload_n 3, 1) := by decide +kernel
theorem d_law_1099 : decode code 1099 = .ok (.iconst 1, 1) := by decide +kernel
theorem d_law_1100 : decode code 1100 = .ok (.iadd, 1) := by decide +kernel
theorem d_law_1101 : decode code 1101 = .ok (.iaload, 1) := by decide +kernel
theorem d_law_1102 : decode code 1102 = .ok (.invokevirtual 116, 3) := by decide +kernel
theorem d_law_1105 : decode code 1105 = .ok (.aload_n 2, 1) := by decide +kernel
theorem d_law_1106 : decode code 1106 = .ok (.aload_n 0, 1) := by decide +kernel
theorem d_law_1107 : decode code 1107 = .ok (.iload_n 3, 1) := by decide +kernel
theorem d_law_1108 : decode code 1108 = .ok (.iconst 1, 1) := by decide +kernel
theorem d_law_1109 : decode code 1109 = .ok (.iadd, 1) := by decide +kernel
theorem d_law_1110 : decode code 1110 = .ok (.iaload, 1) := by decide +kernel
theorem d_law_1111 : decode code 1111 = .ok (.invokevirtual 119, 3) := by decide +kernel
theorem d_law_1114 : decode code 1114 = .ok (.if_icmp .eq 28, 3) := by decide +kernel
theorem d_law_1117 : decode code 1117 = .ok (.iconst 0, 1) := by decide +kernel
theorem d_law_1118 : decode code 1118 = .ok (.ireturn, 1) := by decide +kernel
theorem d_law_1119 : decode code 1119 = .ok (.aload_n 1, 1) := by decide +kernel
theorem d_law_1120 : decode code 1120 = .ok (.aload_n 0, 1) := by decide +kernel
theorem d_law_1121 : decode code 1121 = .ok (.iload_n 3, 1) := by decide +kernel
theorem d_law_1122 : decode code 1122 = .ok (.iconst 1, 1) := by decide +kernel
theorem d_law_1123 : decode code 1123 = .ok (.iadd, 1) := by decide +kernel
theorem d_law_1124 : decode code 1124 = .ok (.iaload, 1) := by decide +kernel
theorem d_law_1125 : decode code 1125 = .ok (.invokevirtual 120, 3) := by decide +kernel
theorem d_law_1128 : decode code 1128 = .ok (.aload_n 2, 1) := by decide +kernel
theorem d_law_1129 : decode code 1129 = .ok (.aload_n 0, 1) := by decide +kernel
theorem d_law_1130 : decode code 1130 = .ok (.iload_n 3, 1) := by decide +kernel
theorem d_law_1131 : decode code 1131 = .ok (.iconst 1, 1) := by decide +kernel
theorem d_law_1132 : decode code 1132 = .ok (.iadd, 1) := by decide +kernel
theorem d_law_1133 : decode code 1133 = .ok (.iaload, 1) := by decide +kernel
theorem d_law_1134 : decode code 1134 = .ok (.invokevirtual 123, 3) := by decide +kernel
theorem d_law_1137 : decode code 1137 = .ok (.if_icmp .eq 5, 3) := by decide +kernel
theorem d_law_1140 : decode code 1140 = .ok (.iconst 0, 1) := by decide +kernel
theorem d_law_1141 : decode code 1141 = .ok (.ireturn, 1) := by decide +kernel
theorem d_law_1142 : decode code 1142 = .ok (.iinc 3 7, 3) := by decide +kernel
theorem d_law_1145 : decode code 1145 = .ok (.goto (-1127), 3) := by decide +kernel
theorem d_law_1148 : decode code 1148 = .ok (.iconst 1, 1) := by decide +kernel
theorem d_law_1149 : decode code 1149 = .ok (.ireturn, 1) := by decide +kernel
def OKall (INV : Mem → Prop) : Prop := (∀ a0 a1 a2 a3 a4 : Int32, SO INV (f_X11_feed a0 a1 a2 a3 a4) (f_X12_feed a0 a1 a2 a3 a4)) ∧ (∀ a0 : Int32, SO INV (f_X11_end a0) (f_X12_end a0)) ∧ (SO INV (f_X11_market ) (f_X12_market )) ∧ (∀ a0 : Int32, SO INV (f_X11_bundle a0) (f_X12_bundle a0)) ∧ (∀ a0 : Int32, SO INV (f_X11_root a0) (f_X12_root a0)) ∧ (∀ a0 a1 : Int32, SO INV (f_X11_purse a0 a1) (f_X12_purse a0 a1)) ∧ (∀ a0 a1 : Int32, SO INV (f_X11_pool a0 a1) (f_X12_pool a0 a1)) ∧ (∀ a0 a1 : Int32, SO INV (f_X11_depth a0 a1) (f_X12_depth a0 a1)) ∧ (∀ a0 a1 : Int32, SO INV (f_X11_stake a0 a1) (f_X12_stake a0 a1)) ∧ (∀ a0 a1 a2 a3 a4 a5 : Int32, SO INV (f_X11_add a0 a1 a2 a3 a4 a5) (f_X12_add a0 a1 a2 a3 a4 a5)) ∧ (∀ a0 a1 : Int32, SO INV (f_X11_take a0 a1) (f_X12_take a0 a1)) ∧ (∀ a0 : Int32, SO INV (f_X11_pay a0) (f_X12_pay a0)) ∧ (∀ a0 : Int32, SO INV (f_X11_levy a0) (f_X12_levy a0)) ∧ (∀ a0 a1 a2 a3 a4 : Int32, SO INV (f_X11_in a0 a1 a2 a3 a4) (f_X12_in a0 a1 a2 a3 a4)) ∧ (∀ a0 a1 a2 a3 : Int32, SO INV (f_X11_out a0 a1 a2 a3) (f_X12_out a0 a1 a2 a3)) ∧ (∀ a0 : Int32, SO INV (f_X11_passes a0) (f_X12_passes a0)) ∧ (∀ a0 a1 : Int32, SO INV (f_X11_mean a0 a1) (f_X12_mean a0 a1)) ∧ (∀ a0 a1 a2 a3 a4 : Int32, SO INV (f_X11_quoteIn a0 a1 a2 a3 a4) (f_X12_quoteIn a0 a1 a2 a3 a4)) ∧ (∀ a0 a1 a2 a3 : Int32, SO INV (f_X11_quoteOut a0 a1 a2 a3) (f_X12_quoteOut a0 a1 a2 a3)) ∧ (∀ a0 a1 a2 : Int32, SO INV (f_X11_round a0 a1 a2) (f_X12_round a0 a1 a2)) ∧ (∀ a0 a1 a2 : Int32, SO INV (f_X11_least a0 a1 a2) (f_X12_least a0 a1 a2)) ∧ (∀ a0 a1 a2 a3 : Int32, SO INV (f_X11_route a0 a1 a2 a3) (f_X12_route a0 a1 a2 a3)) ∧ (∀ a0 a1 a2 a3 : Int32, SO INV (f_X11_parts a0 a1 a2 a3) (f_X12_parts a0 a1 a2 a3)) ∧ (∀ a0 a1 : Int32, SO INV (f_X11_ring a0 a1) (f_X12_ring a0 a1)) ∧ (∀ a0 : Int32, SO INV (f_X11_total a0) (f_X12_total a0)) ∧ (∀ a0 : Int32, SO INV (f_X11_count a0) (f_X12_count a0))
theorem l_sub {p : Program} {l : Launch} {e : Env} {s : State} {m : MethodId} {below : List Frame} {meth : Method} {c : Code} {b : Nat} {Γ : GG} {kc ks : Nat} {S : Mem} {pc : Nat} {lv lv' : List (Nat × AV)} {st : List AV} (ks' : List Nat) (hl : ks'.filterMap (fun k => lv[k]?) = lv') (k : LZ p l e s m below meth c b Γ kc ks S pc lv' st) : LZ p l e s m below meth c b Γ kc ks S pc lv st := fun H locs ls hP hS h => k H locs ls hP hS (lv_sub h ks' ((lm_sub Γ lv ks').trans (congrArg (lm Γ) hl)))
theorem law_gt {i L : Nat} (h : L < i + 7) (hi : i ≤ L + 7) (hL : L ≤ 3584) : nI L - nI 7 < nI i := by
  rw [Int32.lt_iff_toInt_lt, pk_sub_toInt (by omega) (by omega), nI_toInt (by omega)]
  omega
theorem law_le {i L : Nat} (h : ¬ nI L - nI 7 < nI i) (hi : i ≤ L + 7) (hL : L ≤ 3584) : i + 7 ≤ L := by
  rw [Int32.lt_iff_toInt_lt, pk_sub_toInt (by omega) (by omega), nI_toInt (by omega)] at h
  omega
set_option maxRecDepth 20000 in
theorem law_case_0 {p : Program} {l : Launch} {e : Env} {s : State} {m : MethodId} {below : List Frame} {meth : Method} {c : Code} {b L : Nat} {xs : Nat → Int32} {Γ : GG} {kc ks : Nat} (hL : L ≤ 3584) (C : lw_At p s m meth c b L xs) (G : LW s b Γ kc ks) {INV : Mem → Prop} (OK : OKall INV) {i : Nat} (hi : i + 7 ≤ L) {S : Mem} (hS0 : INV S) (hend : ∀ S2 : Mem, INV S2 → LZ p l e s m below meth c b Γ kc ks S2 1142 [(0, aR 500), (1, aR 1), (2, aR 20), (3, aI (nI i))] []) : LZ p l e s m below meth c b Γ kc ks S 152 [(0, aR 500), (1, aR 1), (2, aR 20), (3, aI (nI i))] [] := by
  refine l_aload_n (h := 1) (j := 1) C (by decide) d_law_152 rfl ?_
  refine l_aload_n (h := 500) (j := 0) C (by decide) d_law_153 rfl ?_
  refine l_iload_n (j := 3) C d_law_154 rfl ?_
  refine l_iconst (v := nI 1) C d_law_155 (by decide) ?_
  refine l_iadd C d_law_156 ?_
  refine l_sld C G (vp_off (k := 1) (by omega) hL) d_law_157 ?_
  refine l_aload_n (h := 500) (j := 0) C (by decide) d_law_158 rfl ?_
  refine l_iload_n (j := 3) C d_law_159 rfl ?_
  refine l_iconst (v := nI 2) C d_law_160 (by decide) ?_
  refine l_iadd C d_law_161 ?_
  refine l_sld C G (vp_off (k := 2) (by omega) hL) d_law_162 ?_
  refine l_aload_n (h := 500) (j := 0) C (by decide) d_law_163 rfl ?_
  refine l_iload_n (j := 3) C d_law_164 rfl ?_
  refine l_iconst (v := nI 3) C d_law_165 (by decide) ?_
  refine l_iadd C d_law_166 ?_
  refine l_sld C G (vp_off (k := 3) (by omega) hL) d_law_167 ?_
  refine l_aload_n (h := 500) (j := 0) C (by decide) d_law_168 rfl ?_
  refine l_iload_n (j := 3) C d_law_169 rfl ?_
  refine l_iconst (v := nI 4) C d_law_170 (by decide) ?_
  refine l_iadd C d_law_171 ?_
  refine l_sld C G (vp_off (k := 4) (by omega) hL) d_law_172 ?_
  refine l_aload_n (h := 500) (j := 0) C (by decide) d_law_173 rfl ?_
  refine l_iload_n (j := 3) C d_law_174 rfl ?_
  refine l_iconst (v := nI 5) C d_law_175 (by decide) ?_
  refine l_iadd C d_law_176 ?_
  refine l_sld C G (vp_off (k := 5) (by omega) hL) d_law_177 ?_
  obtain ⟨r, S1, S2, hF1, hF2, hV⟩ := OK.1 (xs (nI i + nI 1).toNatClampNeg) (xs (nI i + nI 2).toNatClampNeg) (xs (nI i + nI 3).toNatClampNeg) (xs (nI i + nI 4).toNatClampNeg) (xs (nI i + nI 5).toNatClampNeg) S hS0
  refine l_call (rest := []) C G [aI (xs (nI i + nI 1).toNatClampNeg), aI (xs (nI i + nI 2).toNatClampNeg), aI (xs (nI i + nI 3).toNatClampNeg), aI (xs (nI i + nI 4).toNatClampNeg), aI (xs (nI i + nI 5).toNatClampNeg)] rfl (by decide) rfl rfl k_X11_feed tw_485 ⟨by decide, by decide⟩ (Nat.le_of_ble_eq_true rfl) d_law_178 (c_X11_feed G.2.2.2.1 hF1) rfl ?_
  refine l_aload_n (h := 20) (j := 2) C (by decide) d_law_181 rfl ?_
  refine l_aload_n (h := 500) (j := 0) C (by decide) d_law_182 rfl ?_
  refine l_iload_n (j := 3) C d_law_183 rfl ?_
  refine l_iconst (v := nI 1) C d_law_184 (by decide) ?_
  refine l_iadd C d_law_185 ?_
  refine l_sld C G (vp_off (k := 1) (by omega) hL) d_law_186 ?_
  refine l_aload_n (h := 500) (j := 0) C (by decide) d_law_187 rfl ?_
  refine l_iload_n (j := 3) C d_law_188 rfl ?_
  refine l_iconst (v := nI 2) C d_law_189 (by decide) ?_
  refine l_iadd C d_law_190 ?_
  refine l_sld C G (vp_off (k := 2) (by omega) hL) d_law_191 ?_
  refine l_aload_n (h := 500) (j := 0) C (by decide) d_law_192 rfl ?_
  refine l_iload_n (j := 3) C d_law_193 rfl ?_
  refine l_iconst (v := nI 3) C d_law_194 (by decide) ?_
  refine l_iadd C d_law_195 ?_
  refine l_sld C G (vp_off (k := 3) (by omega) hL) d_law_196 ?_
  refine l_aload_n (h := 500) (j := 0) C (by decide) d_law_197 rfl ?_
  refine l_iload_n (j := 3) C d_law_198 rfl ?_
  refine l_iconst (v := nI 4) C d_law_199 (by decide) ?_
  refine l_iadd C d_law_200 ?_
  refine l_sld C G (vp_off (k := 4) (by omega) hL) d_law_201 ?_
  refine l_aload_n (h := 500) (j := 0) C (by decide) d_law_202 rfl ?_
  refine l_iload_n (j := 3) C d_law_203 rfl ?_
  refine l_iconst (v := nI 5) C d_law_204 (by decide) ?_
  refine l_iadd C d_law_205 ?_
  refine l_sld C G (vp_off (k := 5) (by omega) hL) d_law_206 ?_
  refine l_call (rest := [aI r]) C G [aI (xs (nI i + nI 1).toNatClampNeg), aI (xs (nI i + nI 2).toNatClampNeg), aI (xs (nI i + nI 3).toNatClampNeg), aI (xs (nI i + nI 4).toNatClampNeg), aI (xs (nI i + nI 5).toNatClampNeg)] rfl (by decide) rfl rfl k_X12_feed tw_1377 ⟨by decide, by decide⟩ (Nat.le_of_ble_eq_true rfl) d_law_207 (c_X12_feed G.2.2.2.1 hF2) rfl ?_
  refine l_same (tgt := 1142) C d_law_210 (by decide) ?_
  exact hend S2 hV
set_option maxRecDepth 20000 in
theorem law_case_1 {p : Program} {l : Launch} {e : Env} {s : State} {m : MethodId} {below : List Frame} {meth : Method} {c : Code} {b L : Nat} {xs : Nat → Int32} {Γ : GG} {kc ks : Nat} (hL : L ≤ 3584) (C : lw_At p s m meth c b L xs) (G : LW s b Γ kc ks) {INV : Mem → Prop} (OK : OKall INV) {i : Nat} (hi : i + 7 ≤ L) {S : Mem} (hS0 : INV S) (hend : ∀ S2 : Mem, INV S2 → LZ p l e s m below meth c b Γ kc ks S2 1142 [(0, aR 500), (1, aR 1), (2, aR 20), (3, aI (nI i))] []) : LZ p l e s m below meth c b Γ kc ks S 215 [(0, aR 500), (1, aR 1), (2, aR 20), (3, aI (nI i))] [] := by
  refine l_aload_n (h := 1) (j := 1) C (by decide) d_law_215 rfl ?_
  refine l_aload_n (h := 500) (j := 0) C (by decide) d_law_216 rfl ?_
  refine l_iload_n (j := 3) C d_law_217 rfl ?_
  refine l_iconst (v := nI 1) C d_law_218 (by decide) ?_
  refine l_iadd C d_law_219 ?_
  refine l_sld C G (vp_off (k := 1) (by omega) hL) d_law_220 ?_
  obtain ⟨r, S1, S2, hF1, hF2, hV⟩ := OK.2.1 (xs (nI i + nI 1).toNatClampNeg) S hS0
  refine l_call (rest := []) C G [aI (xs (nI i + nI 1).toNatClampNeg)] rfl (by decide) rfl rfl k_X11_end tw_497 ⟨by decide, by decide⟩ (Nat.le_of_ble_eq_true rfl) d_law_221 (c_X11_end G.2.2.2.1 hF1) rfl ?_
  refine l_aload_n (h := 20) (j := 2) C (by decide) d_law_224 rfl ?_
  refine l_aload_n (h := 500) (j := 0) C (by decide) d_law_225 rfl ?_
  refine l_iload_n (j := 3) C d_law_226 rfl ?_
  refine l_iconst (v := nI 1) C d_law_227 (by decide) ?_
  refine l_iadd C d_law_228 ?_
  refine l_sld C G (vp_off (k := 1) (by omega) hL) d_law_229 ?_
  refine l_call (rest := [aI r]) C G [aI (xs (nI i + nI 1).toNatClampNeg)] rfl (by decide) rfl rfl k_X12_end tw_1381 ⟨by decide, by decide⟩ (Nat.le_of_ble_eq_true rfl) d_law_230 (c_X12_end G.2.2.2.1 hF2) rfl ?_
  refine l_same (tgt := 1142) C d_law_233 (by decide) ?_
  exact hend S2 hV
set_option maxRecDepth 20000 in
theorem law_case_2 {p : Program} {l : Launch} {e : Env} {s : State} {m : MethodId} {below : List Frame} {meth : Method} {c : Code} {b L : Nat} {xs : Nat → Int32} {Γ : GG} {kc ks : Nat} (hL : L ≤ 3584) (C : lw_At p s m meth c b L xs) (G : LW s b Γ kc ks) {INV : Mem → Prop} (OK : OKall INV) {i : Nat} (hi : i + 7 ≤ L) {S : Mem} (hS0 : INV S) (hend : ∀ S2 : Mem, INV S2 → LZ p l e s m below meth c b Γ kc ks S2 1142 [(0, aR 500), (1, aR 1), (2, aR 20), (3, aI (nI i))] []) : LZ p l e s m below meth c b Γ kc ks S 238 [(0, aR 500), (1, aR 1), (2, aR 20), (3, aI (nI i))] [] := by
  refine l_aload_n (h := 1) (j := 1) C (by decide) d_law_238 rfl ?_
  obtain ⟨r, S1, S2, hF1, hF2, hV⟩ := OK.2.2.1  S hS0
  refine l_call (rest := []) C G [] rfl (by decide) rfl rfl k_X11_market tw_501 ⟨by decide, by decide⟩ (Nat.le_of_ble_eq_true rfl) d_law_239 (c_X11_market G.2.2.2.1 hF1) rfl ?_
  refine l_aload_n (h := 20) (j := 2) C (by decide) d_law_242 rfl ?_
  refine l_call (rest := [aI r]) C G [] rfl (by decide) rfl rfl k_X12_market tw_1388 ⟨by decide, by decide⟩ (Nat.le_of_ble_eq_true rfl) d_law_243 (c_X12_market G.2.2.2.1 hF2) rfl ?_
  refine l_same (tgt := 1142) C d_law_246 (by decide) ?_
  exact hend S2 hV
set_option maxRecDepth 20000 in
theorem law_case_3 {p : Program} {l : Launch} {e : Env} {s : State} {m : MethodId} {below : List Frame} {meth : Method} {c : Code} {b L : Nat} {xs : Nat → Int32} {Γ : GG} {kc ks : Nat} (hL : L ≤ 3584) (C : lw_At p s m meth c b L xs) (G : LW s b Γ kc ks) {INV : Mem → Prop} (OK : OKall INV) {i : Nat} (hi : i + 7 ≤ L) {S : Mem} (hS0 : INV S) (hend : ∀ S2 : Mem, INV S2 → LZ p l e s m below meth c b Γ kc ks S2 1142 [(0, aR 500), (1, aR 1), (2, aR 20), (3, aI (nI i))] []) : LZ p l e s m below meth c b Γ kc ks S 251 [(0, aR 500), (1, aR 1), (2, aR 20), (3, aI (nI i))] [] := by
  refine l_aload_n (h := 1) (j := 1) C (by decide) d_law_251 rfl ?_
  refine l_aload_n (h := 500) (j := 0) C (by decide) d_law_252 rfl ?_
  refine l_iload_n (j := 3) C d_law_253 rfl ?_
  refine l_iconst (v := nI 1) C d_law_254 (by decide) ?_
  refine l_iadd C d_law_255 ?_
  refine l_sld C G (vp_off (k := 1) (by omega) hL) d_law_256 ?_
  obtain ⟨r, S1, S2, hF1, hF2, hV⟩ := OK.2.2.2.1 (xs (nI i + nI 1).toNatClampNeg) S hS0
  refine l_call (rest := []) C G [aI (xs (nI i + nI 1).toNatClampNeg)] rfl (by decide) rfl rfl k_X11_bundle tw_679 ⟨by decide, by decide⟩ (Nat.le_of_ble_eq_true rfl) d_law_257 (c_X11_bundle G.2.2.2.1 hF1) rfl ?_
  refine l_aload_n (h := 20) (j := 2) C (by decide) d_law_260 rfl ?_
  refine l_aload_n (h := 500) (j := 0) C (by decide) d_law_261 rfl ?_
  refine l_iload_n (j := 3) C d_law_262 rfl ?_
  refine l_iconst (v := nI 1) C d_law_263 (by decide) ?_
  refine l_iadd C d_law_264 ?_
  refine l_sld C G (vp_off (k := 1) (by omega) hL) d_law_265 ?_
  refine l_call (rest := [aI r]) C G [aI (xs (nI i + nI 1).toNatClampNeg)] rfl (by decide) rfl rfl k_X12_bundle tw_1681 ⟨by decide, by decide⟩ (Nat.le_of_ble_eq_true rfl) d_law_266 (c_X12_bundle G.2.2.2.1 hF2) rfl ?_
  refine l_same (tgt := 1142) C d_law_269 (by decide) ?_
  exact hend S2 hV
set_option maxRecDepth 20000 in
theorem law_case_4 {p : Program} {l : Launch} {e : Env} {s : State} {m : MethodId} {below : List Frame} {meth : Method} {c : Code} {b L : Nat} {xs : Nat → Int32} {Γ : GG} {kc ks : Nat} (hL : L ≤ 3584) (C : lw_At p s m meth c b L xs) (G : LW s b Γ kc ks) {INV : Mem → Prop} (OK : OKall INV) {i : Nat} (hi : i + 7 ≤ L) {S : Mem} (hS0 : INV S) (hend : ∀ S2 : Mem, INV S2 → LZ p l e s m below meth c b Γ kc ks S2 1142 [(0, aR 500), (1, aR 1), (2, aR 20), (3, aI (nI i))] []) : LZ p l e s m below meth c b Γ kc ks S 274 [(0, aR 500), (1, aR 1), (2, aR 20), (3, aI (nI i))] [] := by
  refine l_aload_n (h := 1) (j := 1) C (by decide) d_law_274 rfl ?_
  refine l_aload_n (h := 500) (j := 0) C (by decide) d_law_275 rfl ?_
  refine l_iload_n (j := 3) C d_law_276 rfl ?_
  refine l_iconst (v := nI 1) C d_law_277 (by decide) ?_
  refine l_iadd C d_law_278 ?_
  refine l_sld C G (vp_off (k := 1) (by omega) hL) d_law_279 ?_
  obtain ⟨r, S1, S2, hF1, hF2, hV⟩ := OK.2.2.2.2.1 (xs (nI i + nI 1).toNatClampNeg) S hS0
  refine l_call (rest := []) C G [aI (xs (nI i + nI 1).toNatClampNeg)] rfl (by decide) rfl rfl k_X11_root tw_1005 ⟨by decide, by decide⟩ (Nat.le_of_ble_eq_true rfl) d_law_280 (c_X11_root G.2.2.2.1 hF1) rfl ?_
  refine l_aload_n (h := 20) (j := 2) C (by decide) d_law_283 rfl ?_
  refine l_aload_n (h := 500) (j := 0) C (by decide) d_law_284 rfl ?_
  refine l_iload_n (j := 3) C d_law_285 rfl ?_
  refine l_iconst (v := nI 1) C d_law_286 (by decide) ?_
  refine l_iadd C d_law_287 ?_
  refine l_sld C G (vp_off (k := 1) (by omega) hL) d_law_288 ?_
  refine l_call (rest := [aI r]) C G [aI (xs (nI i + nI 1).toNatClampNeg)] rfl (by decide) rfl rfl k_X12_root tw_1768 ⟨by decide, by decide⟩ (Nat.le_of_ble_eq_true rfl) d_law_289 (c_X12_root G.2.2.2.1 hF2) rfl ?_
  refine l_same (tgt := 1142) C d_law_292 (by decide) ?_
  exact hend S2 hV
set_option maxRecDepth 20000 in
theorem law_case_5 {p : Program} {l : Launch} {e : Env} {s : State} {m : MethodId} {below : List Frame} {meth : Method} {c : Code} {b L : Nat} {xs : Nat → Int32} {Γ : GG} {kc ks : Nat} (hL : L ≤ 3584) (C : lw_At p s m meth c b L xs) (G : LW s b Γ kc ks) {INV : Mem → Prop} (OK : OKall INV) {i : Nat} (hi : i + 7 ≤ L) {S : Mem} (hS0 : INV S) (hend : ∀ S2 : Mem, INV S2 → LZ p l e s m below meth c b Γ kc ks S2 1142 [(0, aR 500), (1, aR 1), (2, aR 20), (3, aI (nI i))] []) : LZ p l e s m below meth c b Γ kc ks S 297 [(0, aR 500), (1, aR 1), (2, aR 20), (3, aI (nI i))] [] := by
  refine l_aload_n (h := 1) (j := 1) C (by decide) d_law_297 rfl ?_
  refine l_aload_n (h := 500) (j := 0) C (by decide) d_law_298 rfl ?_
  refine l_iload_n (j := 3) C d_law_299 rfl ?_
  refine l_iconst (v := nI 1) C d_law_300 (by decide) ?_
  refine l_iadd C d_law_301 ?_
  refine l_sld C G (vp_off (k := 1) (by omega) hL) d_law_302 ?_
  refine l_aload_n (h := 500) (j := 0) C (by decide) d_law_303 rfl ?_
  refine l_iload_n (j := 3) C d_law_304 rfl ?_
  refine l_iconst (v := nI 2) C d_law_305 (by decide) ?_
  refine l_iadd C d_law_306 ?_
  refine l_sld C G (vp_off (k := 2) (by omega) hL) d_law_307 ?_
  obtain ⟨r, S1, S2, hF1, hF2, hV⟩ := OK.2.2.2.2.2.1 (xs (nI i + nI 1).toNatClampNeg) (xs (nI i + nI 2).toNatClampNeg) S hS0
  refine l_call (rest := []) C G [aI (xs (nI i + nI 1).toNatClampNeg), aI (xs (nI i + nI 2).toNatClampNeg)] rfl (by decide) rfl rfl k_X11_purse tw_1011 ⟨by decide, by decide⟩ (Nat.le_of_ble_eq_true rfl) d_law_308 (c_X11_purse G.2.2.2.1 hF1) rfl ?_
  refine l_aload_n (h := 20) (j := 2) C (by decide) d_law_311 rfl ?_
  refine l_aload_n (h := 500) (j := 0) C (by decide) d_law_312 rfl ?_
  refine l_iload_n (j := 3) C d_law_313 rfl ?_
  refine l_iconst (v := nI 1) C d_law_314 (by decide) ?_
  refine l_iadd C d_law_315 ?_
  refine l_sld C G (vp_off (k := 1) (by omega) hL) d_law_316 ?_
  refine l_aload_n (h := 500) (j := 0) C (by decide) d_law_317 rfl ?_
  refine l_iload_n (j := 3) C d_law_318 rfl ?_
  refine l_iconst (v := nI 2) C d_law_319 (by decide) ?_
  refine l_iadd C d_law_320 ?_
  refine l_sld C G (vp_off (k := 2) (by omega) hL) d_law_321 ?_
  refine l_call (rest := [aI r]) C G [aI (xs (nI i + nI 1).toNatClampNeg), aI (xs (nI i + nI 2).toNatClampNeg)] rfl (by decide) rfl rfl k_X12_purse tw_1772 ⟨by decide, by decide⟩ (Nat.le_of_ble_eq_true rfl) d_law_322 (c_X12_purse G.2.2.2.1 hF2) rfl ?_
  refine l_same (tgt := 1142) C d_law_325 (by decide) ?_
  exact hend S2 hV
set_option maxRecDepth 20000 in
theorem law_case_6 {p : Program} {l : Launch} {e : Env} {s : State} {m : MethodId} {below : List Frame} {meth : Method} {c : Code} {b L : Nat} {xs : Nat → Int32} {Γ : GG} {kc ks : Nat} (hL : L ≤ 3584) (C : lw_At p s m meth c b L xs) (G : LW s b Γ kc ks) {INV : Mem → Prop} (OK : OKall INV) {i : Nat} (hi : i + 7 ≤ L) {S : Mem} (hS0 : INV S) (hend : ∀ S2 : Mem, INV S2 → LZ p l e s m below meth c b Γ kc ks S2 1142 [(0, aR 500), (1, aR 1), (2, aR 20), (3, aI (nI i))] []) : LZ p l e s m below meth c b Γ kc ks S 330 [(0, aR 500), (1, aR 1), (2, aR 20), (3, aI (nI i))] [] := by
  refine l_aload_n (h := 1) (j := 1) C (by decide) d_law_330 rfl ?_
  refine l_aload_n (h := 500) (j := 0) C (by decide) d_law_331 rfl ?_
  refine l_iload_n (j := 3) C d_law_332 rfl ?_
  refine l_iconst (v := nI 1) C d_law_333 (by decide) ?_
  refine l_iadd C d_law_334 ?_
  refine l_sld C G (vp_off (k := 1) (by omega) hL) d_law_335 ?_
  refine l_aload_n (h := 500) (j := 0) C (by decide) d_law_336 rfl ?_
  refine l_iload_n (j := 3) C d_law_337 rfl ?_
  refine l_iconst (v := nI 2) C d_law_338 (by decide) ?_
  refine l_iadd C d_law_339 ?_
  refine l_sld C G (vp_off (k := 2) (by omega) hL) d_law_340 ?_
  obtain ⟨r, S1, S2, hF1, hF2, hV⟩ := OK.2.2.2.2.2.2.1 (xs (nI i + nI 1).toNatClampNeg) (xs (nI i + nI 2).toNatClampNeg) S hS0
  refine l_call (rest := []) C G [aI (xs (nI i + nI 1).toNatClampNeg), aI (xs (nI i + nI 2).toNatClampNeg)] rfl (by decide) rfl rfl k_X11_pool tw_1017 ⟨by decide, by decide⟩ (Nat.le_of_ble_eq_true rfl) d_law_341 (c_X11_pool G.2.2.2.1 hF1) rfl ?_
  refine l_aload_n (h := 20) (j := 2) C (by decide) d_law_344 rfl ?_
  refine l_aload_n (h := 500) (j := 0) C (by decide) d_law_345 rfl ?_
  refine l_iload_n (j := 3) C d_law_346 rfl ?_
  refine l_iconst (v := nI 1) C d_law_347 (by decide) ?_
  refine l_iadd C d_law_348 ?_
  refine l_sld C G (vp_off (k := 1) (by omega) hL) d_law_349 ?_
  refine l_aload_n (h := 500) (j := 0) C (by decide) d_law_350 rfl ?_
  refine l_iload_n (j := 3) C d_law_351 rfl ?_
  refine l_iconst (v := nI 2) C d_law_352 (by decide) ?_
  refine l_iadd C d_law_353 ?_
  refine l_sld C G (vp_off (k := 2) (by omega) hL) d_law_354 ?_
  refine l_call (rest := [aI r]) C G [aI (xs (nI i + nI 1).toNatClampNeg), aI (xs (nI i + nI 2).toNatClampNeg)] rfl (by decide) rfl rfl k_X12_pool tw_1776 ⟨by decide, by decide⟩ (Nat.le_of_ble_eq_true rfl) d_law_355 (c_X12_pool G.2.2.2.1 hF2) rfl ?_
  refine l_same (tgt := 1142) C d_law_358 (by decide) ?_
  exact hend S2 hV
set_option maxRecDepth 20000 in
theorem law_case_7 {p : Program} {l : Launch} {e : Env} {s : State} {m : MethodId} {below : List Frame} {meth : Method} {c : Code} {b L : Nat} {xs : Nat → Int32} {Γ : GG} {kc ks : Nat} (hL : L ≤ 3584) (C : lw_At p s m meth c b L xs) (G : LW s b Γ kc ks) {INV : Mem → Prop} (OK : OKall INV) {i : Nat} (hi : i + 7 ≤ L) {S : Mem} (hS0 : INV S) (hend : ∀ S2 : Mem, INV S2 → LZ p l e s m below meth c b Γ kc ks S2 1142 [(0, aR 500), (1, aR 1), (2, aR 20), (3, aI (nI i))] []) : LZ p l e s m below meth c b Γ kc ks S 363 [(0, aR 500), (1, aR 1), (2, aR 20), (3, aI (nI i))] [] := by
  refine l_aload_n (h := 1) (j := 1) C (by decide) d_law_363 rfl ?_
  refine l_aload_n (h := 500) (j := 0) C (by decide) d_law_364 rfl ?_
  refine l_iload_n (j := 3) C d_law_365 rfl ?_
  refine l_iconst (v := nI 1) C d_law_366 (by decide) ?_
  refine l_iadd C d_law_367 ?_
  refine l_sld C G (vp_off (k := 1) (by omega) hL) d_law_368 ?_
  refine l_aload_n (h := 500) (j := 0) C (by decide) d_law_369 rfl ?_
  refine l_iload_n (j := 3) C d_law_370 rfl ?_
  refine l_iconst (v := nI 2) C d_law_371 (by decide) ?_
  refine l_iadd C d_law_372 ?_
  refine l_sld C G (vp_off (k := 2) (by omega) hL) d_law_373 ?_
  obtain ⟨r, S1, S2, hF1, hF2, hV⟩ := OK.2.2.2.2.2.2.2.1 (xs (nI i + nI 1).toNatClampNeg) (xs (nI i + nI 2).toNatClampNeg) S hS0
  refine l_call (rest := []) C G [aI (xs (nI i + nI 1).toNatClampNeg), aI (xs (nI i + nI 2).toNatClampNeg)] rfl (by decide) rfl rfl k_X11_depth tw_1028 ⟨by decide, by decide⟩ (Nat.le_of_ble_eq_true rfl) d_law_374 (c_X11_depth G.2.2.2.1 hF1) rfl ?_
  refine l_aload_n (h := 20) (j := 2) C (by decide) d_law_377 rfl ?_
  refine l_aload_n (h := 500) (j := 0) C (by decide) d_law_378 rfl ?_
  refine l_iload_n (j := 3) C d_law_379 rfl ?_
  refine l_iconst (v := nI 1) C d_law_380 (by decide) ?_
  refine l_iadd C d_law_381 ?_
  refine l_sld C G (vp_off (k := 1) (by omega) hL) d_law_382 ?_
  refine l_aload_n (h := 500) (j := 0) C (by decide) d_law_383 rfl ?_
  refine l_iload_n (j := 3) C d_law_384 rfl ?_
  refine l_iconst (v := nI 2) C d_law_385 (by decide) ?_
  refine l_iadd C d_law_386 ?_
  refine l_sld C G (vp_off (k := 2) (by omega) hL) d_law_387 ?_
  refine l_call (rest := [aI r]) C G [aI (xs (nI i + nI 1).toNatClampNeg), aI (xs (nI i + nI 2).toNatClampNeg)] rfl (by decide) rfl rfl k_X12_depth tw_1785 ⟨by decide, by decide⟩ (Nat.le_of_ble_eq_true rfl) d_law_388 (c_X12_depth G.2.2.2.1 hF2) rfl ?_
  refine l_same (tgt := 1142) C d_law_391 (by decide) ?_
  exact hend S2 hV
set_option maxRecDepth 20000 in
theorem law_case_8 {p : Program} {l : Launch} {e : Env} {s : State} {m : MethodId} {below : List Frame} {meth : Method} {c : Code} {b L : Nat} {xs : Nat → Int32} {Γ : GG} {kc ks : Nat} (hL : L ≤ 3584) (C : lw_At p s m meth c b L xs) (G : LW s b Γ kc ks) {INV : Mem → Prop} (OK : OKall INV) {i : Nat} (hi : i + 7 ≤ L) {S : Mem} (hS0 : INV S) (hend : ∀ S2 : Mem, INV S2 → LZ p l e s m below meth c b Γ kc ks S2 1142 [(0, aR 500), (1, aR 1), (2, aR 20), (3, aI (nI i))] []) : LZ p l e s m below meth c b Γ kc ks S 396 [(0, aR 500), (1, aR 1), (2, aR 20), (3, aI (nI i))] [] := by
  refine l_aload_n (h := 1) (j := 1) C (by decide) d_law_396 rfl ?_
  refine l_aload_n (h := 500) (j := 0) C (by decide) d_law_397 rfl ?_
  refine l_iload_n (j := 3) C d_law_398 rfl ?_
  refine l_iconst (v := nI 1) C d_law_399 (by decide) ?_
  refine l_iadd C d_law_400 ?_
  refine l_sld C G (vp_off (k := 1) (by omega) hL) d_law_401 ?_
  refine l_aload_n (h := 500) (j := 0) C (by decide) d_law_402 rfl ?_
  refine l_iload_n (j := 3) C d_law_403 rfl ?_
  refine l_iconst (v := nI 2) C d_law_404 (by decide) ?_
  refine l_iadd C d_law_405 ?_
  refine l_sld C G (vp_off (k := 2) (by omega) hL) d_law_406 ?_
  obtain ⟨r, S1, S2, hF1, hF2, hV⟩ := OK.2.2.2.2.2.2.2.2.1 (xs (nI i + nI 1).toNatClampNeg) (xs (nI i + nI 2).toNatClampNeg) S hS0
  refine l_call (rest := []) C G [aI (xs (nI i + nI 1).toNatClampNeg), aI (xs (nI i + nI 2).toNatClampNeg)] rfl (by decide) rfl rfl k_X11_stake tw_1035 ⟨by decide, by decide⟩ (Nat.le_of_ble_eq_true rfl) d_law_407 (c_X11_stake G.2.2.2.1 hF1) rfl ?_
  refine l_aload_n (h := 20) (j := 2) C (by decide) d_law_410 rfl ?_
  refine l_aload_n (h := 500) (j := 0) C (by decide) d_law_411 rfl ?_
  refine l_iload_n (j := 3) C d_law_412 rfl ?_
  refine l_iconst (v := nI 1) C d_law_413 (by decide) ?_
  refine l_iadd C d_law_414 ?_
  refine l_sld C G (vp_off (k := 1) (by omega) hL) d_law_415 ?_
  refine l_aload_n (h := 500) (j := 0) C (by decide) d_law_416 rfl ?_
  refine l_iload_n (j := 3) C d_law_417 rfl ?_
  refine l_iconst (v := nI 2) C d_law_418 (by decide) ?_
  refine l_iadd C d_law_419 ?_
  refine l_sld C G (vp_off (k := 2) (by omega) hL) d_law_420 ?_
  refine l_call (rest := [aI r]) C G [aI (xs (nI i + nI 1).toNatClampNeg), aI (xs (nI i + nI 2).toNatClampNeg)] rfl (by decide) rfl rfl k_X12_stake tw_1790 ⟨by decide, by decide⟩ (Nat.le_of_ble_eq_true rfl) d_law_421 (c_X12_stake G.2.2.2.1 hF2) rfl ?_
  refine l_same (tgt := 1142) C d_law_424 (by decide) ?_
  exact hend S2 hV
set_option maxRecDepth 20000 in
theorem law_case_9 {p : Program} {l : Launch} {e : Env} {s : State} {m : MethodId} {below : List Frame} {meth : Method} {c : Code} {b L : Nat} {xs : Nat → Int32} {Γ : GG} {kc ks : Nat} (hL : L ≤ 3584) (C : lw_At p s m meth c b L xs) (G : LW s b Γ kc ks) {INV : Mem → Prop} (OK : OKall INV) {i : Nat} (hi : i + 7 ≤ L) {S : Mem} (hS0 : INV S) (hend : ∀ S2 : Mem, INV S2 → LZ p l e s m below meth c b Γ kc ks S2 1142 [(0, aR 500), (1, aR 1), (2, aR 20), (3, aI (nI i))] []) : LZ p l e s m below meth c b Γ kc ks S 429 [(0, aR 500), (1, aR 1), (2, aR 20), (3, aI (nI i))] [] := by
  refine l_aload_n (h := 1) (j := 1) C (by decide) d_law_429 rfl ?_
  refine l_aload_n (h := 500) (j := 0) C (by decide) d_law_430 rfl ?_
  refine l_iload_n (j := 3) C d_law_431 rfl ?_
  refine l_iconst (v := nI 1) C d_law_432 (by decide) ?_
  refine l_iadd C d_law_433 ?_
  refine l_sld C G (vp_off (k := 1) (by omega) hL) d_law_434 ?_
  refine l_aload_n (h := 500) (j := 0) C (by decide) d_law_435 rfl ?_
  refine l_iload_n (j := 3) C d_law_436 rfl ?_
  refine l_iconst (v := nI 2) C d_law_437 (by decide) ?_
  refine l_iadd C d_law_438 ?_
  refine l_sld C G (vp_off (k := 2) (by omega) hL) d_law_439 ?_
  refine l_aload_n (h := 500) (j := 0) C (by decide) d_law_440 rfl ?_
  refine l_iload_n (j := 3) C d_law_441 rfl ?_
  refine l_iconst (v := nI 3) C d_law_442 (by decide) ?_
  refine l_iadd C d_law_443 ?_
  refine l_sld C G (vp_off (k := 3) (by omega) hL) d_law_444 ?_
  refine l_aload_n (h := 500) (j := 0) C (by decide) d_law_445 rfl ?_
  refine l_iload_n (j := 3) C d_law_446 rfl ?_
  refine l_iconst (v := nI 4) C d_law_447 (by decide) ?_
  refine l_iadd C d_law_448 ?_
  refine l_sld C G (vp_off (k := 4) (by omega) hL) d_law_449 ?_
  refine l_aload_n (h := 500) (j := 0) C (by decide) d_law_450 rfl ?_
  refine l_iload_n (j := 3) C d_law_451 rfl ?_
  refine l_iconst (v := nI 5) C d_law_452 (by decide) ?_
  refine l_iadd C d_law_453 ?_
  refine l_sld C G (vp_off (k := 5) (by omega) hL) d_law_454 ?_
  refine l_aload_n (h := 500) (j := 0) C (by decide) d_law_455 rfl ?_
  refine l_iload_n (j := 3) C d_law_456 rfl ?_
  refine l_bipush (v := nI 6) C d_law_457 (by decide) ?_
  refine l_iadd C d_law_459 ?_
  refine l_sld C G (vp_off (k := 6) (by omega) hL) d_law_460 ?_
  obtain ⟨r, S1, S2, hF1, hF2, hV⟩ := OK.2.2.2.2.2.2.2.2.2.1 (xs (nI i + nI 1).toNatClampNeg) (xs (nI i + nI 2).toNatClampNeg) (xs (nI i + nI 3).toNatClampNeg) (xs (nI i + nI 4).toNatClampNeg) (xs (nI i + nI 5).toNatClampNeg) (xs (nI i + nI 6).toNatClampNeg) S hS0
  refine l_call (rest := []) C G [aI (xs (nI i + nI 1).toNatClampNeg), aI (xs (nI i + nI 2).toNatClampNeg), aI (xs (nI i + nI 3).toNatClampNeg), aI (xs (nI i + nI 4).toNatClampNeg), aI (xs (nI i + nI 5).toNatClampNeg), aI (xs (nI i + nI 6).toNatClampNeg)] rfl (by decide) rfl rfl k_X11_add tw_1043 ⟨by decide, by decide⟩ (Nat.le_of_ble_eq_true rfl) d_law_461 (c_X11_add G.2.2.2.1 hF1) rfl ?_
  refine l_aload_n (h := 20) (j := 2) C (by decide) d_law_464 rfl ?_
  refine l_aload_n (h := 500) (j := 0) C (by decide) d_law_465 rfl ?_
  refine l_iload_n (j := 3) C d_law_466 rfl ?_
  refine l_iconst (v := nI 1) C d_law_467 (by decide) ?_
  refine l_iadd C d_law_468 ?_
  refine l_sld C G (vp_off (k := 1) (by omega) hL) d_law_469 ?_
  refine l_aload_n (h := 500) (j := 0) C (by decide) d_law_470 rfl ?_
  refine l_iload_n (j := 3) C d_law_471 rfl ?_
  refine l_iconst (v := nI 2) C d_law_472 (by decide) ?_
  refine l_iadd C d_law_473 ?_
  refine l_sld C G (vp_off (k := 2) (by omega) hL) d_law_474 ?_
  refine l_aload_n (h := 500) (j := 0) C (by decide) d_law_475 rfl ?_
  refine l_iload_n (j := 3) C d_law_476 rfl ?_
  refine l_iconst (v := nI 3) C d_law_477 (by decide) ?_
  refine l_iadd C d_law_478 ?_
  refine l_sld C G (vp_off (k := 3) (by omega) hL) d_law_479 ?_
  refine l_aload_n (h := 500) (j := 0) C (by decide) d_law_480 rfl ?_
  refine l_iload_n (j := 3) C d_law_481 rfl ?_
  refine l_iconst (v := nI 4) C d_law_482 (by decide) ?_
  refine l_iadd C d_law_483 ?_
  refine l_sld C G (vp_off (k := 4) (by omega) hL) d_law_484 ?_
  refine l_aload_n (h := 500) (j := 0) C (by decide) d_law_485 rfl ?_
  refine l_iload_n (j := 3) C d_law_486 rfl ?_
  refine l_iconst (v := nI 5) C d_law_487 (by decide) ?_
  refine l_iadd C d_law_488 ?_
  refine l_sld C G (vp_off (k := 5) (by omega) hL) d_law_489 ?_
  refine l_aload_n (h := 500) (j := 0) C (by decide) d_law_490 rfl ?_
  refine l_iload_n (j := 3) C d_law_491 rfl ?_
  refine l_bipush (v := nI 6) C d_law_492 (by decide) ?_
  refine l_iadd C d_law_494 ?_
  refine l_sld C G (vp_off (k := 6) (by omega) hL) d_law_495 ?_
  refine l_call (rest := [aI r]) C G [aI (xs (nI i + nI 1).toNatClampNeg), aI (xs (nI i + nI 2).toNatClampNeg), aI (xs (nI i + nI 3).toNatClampNeg), aI (xs (nI i + nI 4).toNatClampNeg), aI (xs (nI i + nI 5).toNatClampNeg), aI (xs (nI i + nI 6).toNatClampNeg)] rfl (by decide) rfl rfl k_X12_add tw_1459 ⟨by decide, by decide⟩ (Nat.le_of_ble_eq_true rfl) d_law_496 (c_X12_add G.2.2.2.1 hF2) rfl ?_
  refine l_same (tgt := 1142) C d_law_499 (by decide) ?_
  exact hend S2 hV
set_option maxRecDepth 20000 in
theorem law_case_10 {p : Program} {l : Launch} {e : Env} {s : State} {m : MethodId} {below : List Frame} {meth : Method} {c : Code} {b L : Nat} {xs : Nat → Int32} {Γ : GG} {kc ks : Nat} (hL : L ≤ 3584) (C : lw_At p s m meth c b L xs) (G : LW s b Γ kc ks) {INV : Mem → Prop} (OK : OKall INV) {i : Nat} (hi : i + 7 ≤ L) {S : Mem} (hS0 : INV S) (hend : ∀ S2 : Mem, INV S2 → LZ p l e s m below meth c b Γ kc ks S2 1142 [(0, aR 500), (1, aR 1), (2, aR 20), (3, aI (nI i))] []) : LZ p l e s m below meth c b Γ kc ks S 504 [(0, aR 500), (1, aR 1), (2, aR 20), (3, aI (nI i))] [] := by
  refine l_aload_n (h := 1) (j := 1) C (by decide) d_law_504 rfl ?_
  refine l_aload_n (h := 500) (j := 0) C (by decide) d_law_505 rfl ?_
  refine l_iload_n (j := 3) C d_law_506 rfl ?_
  refine l_iconst (v := nI 1) C d_law_507 (by decide) ?_
  refine l_iadd C d_law_508 ?_
  refine l_sld C G (vp_off (k := 1) (by omega) hL) d_law_509 ?_
  refine l_aload_n (h := 500) (j := 0) C (by decide) d_law_510 rfl ?_
  refine l_iload_n (j := 3) C d_law_511 rfl ?_
  refine l_iconst (v := nI 2) C d_law_512 (by decide) ?_
  refine l_iadd C d_law_513 ?_
  refine l_sld C G (vp_off (k := 2) (by omega) hL) d_law_514 ?_
  obtain ⟨r, S1, S2, hF1, hF2, hV⟩ := OK.2.2.2.2.2.2.2.2.2.2.1 (xs (nI i + nI 1).toNatClampNeg) (xs (nI i + nI 2).toNatClampNeg) S hS0
  refine l_call (rest := []) C G [aI (xs (nI i + nI 1).toNatClampNeg), aI (xs (nI i + nI 2).toNatClampNeg)] rfl (by decide) rfl rfl k_X11_take tw_1048 ⟨by decide, by decide⟩ (Nat.le_of_ble_eq_true rfl) d_law_515 (c_X11_take G.2.2.2.1 hF1) rfl ?_
  refine l_aload_n (h := 20) (j := 2) C (by decide) d_law_518 rfl ?_
  refine l_aload_n (h := 500) (j := 0) C (by decide) d_law_519 rfl ?_
  refine l_iload_n (j := 3) C d_law_520 rfl ?_
  refine l_iconst (v := nI 1) C d_law_521 (by decide) ?_
  refine l_iadd C d_law_522 ?_
  refine l_sld C G (vp_off (k := 1) (by omega) hL) d_law_523 ?_
  refine l_aload_n (h := 500) (j := 0) C (by decide) d_law_524 rfl ?_
  refine l_iload_n (j := 3) C d_law_525 rfl ?_
  refine l_iconst (v := nI 2) C d_law_526 (by decide) ?_
  refine l_iadd C d_law_527 ?_
  refine l_sld C G (vp_off (k := 2) (by omega) hL) d_law_528 ?_
  refine l_call (rest := [aI r]) C G [aI (xs (nI i + nI 1).toNatClampNeg), aI (xs (nI i + nI 2).toNatClampNeg)] rfl (by decide) rfl rfl k_X12_take tw_1550 ⟨by decide, by decide⟩ (Nat.le_of_ble_eq_true rfl) d_law_529 (c_X12_take G.2.2.2.1 hF2) rfl ?_
  refine l_same (tgt := 1142) C d_law_532 (by decide) ?_
  exact hend S2 hV
set_option maxRecDepth 20000 in
theorem law_case_11 {p : Program} {l : Launch} {e : Env} {s : State} {m : MethodId} {below : List Frame} {meth : Method} {c : Code} {b L : Nat} {xs : Nat → Int32} {Γ : GG} {kc ks : Nat} (hL : L ≤ 3584) (C : lw_At p s m meth c b L xs) (G : LW s b Γ kc ks) {INV : Mem → Prop} (OK : OKall INV) {i : Nat} (hi : i + 7 ≤ L) {S : Mem} (hS0 : INV S) (hend : ∀ S2 : Mem, INV S2 → LZ p l e s m below meth c b Γ kc ks S2 1142 [(0, aR 500), (1, aR 1), (2, aR 20), (3, aI (nI i))] []) : LZ p l e s m below meth c b Γ kc ks S 537 [(0, aR 500), (1, aR 1), (2, aR 20), (3, aI (nI i))] [] := by
  refine l_aload_n (h := 1) (j := 1) C (by decide) d_law_537 rfl ?_
  refine l_aload_n (h := 500) (j := 0) C (by decide) d_law_538 rfl ?_
  refine l_iload_n (j := 3) C d_law_539 rfl ?_
  refine l_iconst (v := nI 1) C d_law_540 (by decide) ?_
  refine l_iadd C d_law_541 ?_
  refine l_sld C G (vp_off (k := 1) (by omega) hL) d_law_542 ?_
  obtain ⟨r, S1, S2, hF1, hF2, hV⟩ := OK.2.2.2.2.2.2.2.2.2.2.2.1 (xs (nI i + nI 1).toNatClampNeg) S hS0
  refine l_call (rest := []) C G [aI (xs (nI i + nI 1).toNatClampNeg)] rfl (by decide) rfl rfl k_X11_pay tw_1053 ⟨by decide, by decide⟩ (Nat.le_of_ble_eq_true rfl) d_law_543 (c_X11_pay G.2.2.2.1 hF1) rfl ?_
  refine l_aload_n (h := 20) (j := 2) C (by decide) d_law_546 rfl ?_
  refine l_aload_n (h := 500) (j := 0) C (by decide) d_law_547 rfl ?_
  refine l_iload_n (j := 3) C d_law_548 rfl ?_
  refine l_iconst (v := nI 1) C d_law_549 (by decide) ?_
  refine l_iadd C d_law_550 ?_
  refine l_sld C G (vp_off (k := 1) (by omega) hL) d_law_551 ?_
  refine l_call (rest := [aI r]) C G [aI (xs (nI i + nI 1).toNatClampNeg)] rfl (by decide) rfl rfl k_X12_pay tw_1566 ⟨by decide, by decide⟩ (Nat.le_of_ble_eq_true rfl) d_law_552 (c_X12_pay G.2.2.2.1 hF2) rfl ?_
  refine l_same (tgt := 1142) C d_law_555 (by decide) ?_
  exact hend S2 hV
set_option maxRecDepth 20000 in
theorem law_case_12 {p : Program} {l : Launch} {e : Env} {s : State} {m : MethodId} {below : List Frame} {meth : Method} {c : Code} {b L : Nat} {xs : Nat → Int32} {Γ : GG} {kc ks : Nat} (hL : L ≤ 3584) (C : lw_At p s m meth c b L xs) (G : LW s b Γ kc ks) {INV : Mem → Prop} (OK : OKall INV) {i : Nat} (hi : i + 7 ≤ L) {S : Mem} (hS0 : INV S) (hend : ∀ S2 : Mem, INV S2 → LZ p l e s m below meth c b Γ kc ks S2 1142 [(0, aR 500), (1, aR 1), (2, aR 20), (3, aI (nI i))] []) : LZ p l e s m below meth c b Γ kc ks S 560 [(0, aR 500), (1, aR 1), (2, aR 20), (3, aI (nI i))] [] := by
  refine l_aload_n (h := 1) (j := 1) C (by decide) d_law_560 rfl ?_
  refine l_aload_n (h := 500) (j := 0) C (by decide) d_law_561 rfl ?_
  refine l_iload_n (j := 3) C d_law_562 rfl ?_
  refine l_iconst (v := nI 1) C d_law_563 (by decide) ?_
  refine l_iadd C d_law_564 ?_
  refine l_sld C G (vp_off (k := 1) (by omega) hL) d_law_565 ?_
  obtain ⟨r, S1, S2, hF1, hF2, hV⟩ := OK.2.2.2.2.2.2.2.2.2.2.2.2.1 (xs (nI i + nI 1).toNatClampNeg) S hS0
  refine l_call (rest := []) C G [aI (xs (nI i + nI 1).toNatClampNeg)] rfl (by decide) rfl rfl k_X11_levy tw_1059 ⟨by decide, by decide⟩ (Nat.le_of_ble_eq_true rfl) d_law_566 (c_X11_levy G.2.2.2.1 hF1) rfl ?_
  refine l_aload_n (h := 20) (j := 2) C (by decide) d_law_569 rfl ?_
  refine l_aload_n (h := 500) (j := 0) C (by decide) d_law_570 rfl ?_
  refine l_iload_n (j := 3) C d_law_571 rfl ?_
  refine l_iconst (v := nI 1) C d_law_572 (by decide) ?_
  refine l_iadd C d_law_573 ?_
  refine l_sld C G (vp_off (k := 1) (by omega) hL) d_law_574 ?_
  refine l_call (rest := [aI r]) C G [aI (xs (nI i + nI 1).toNatClampNeg)] rfl (by decide) rfl rfl k_X12_levy tw_1570 ⟨by decide, by decide⟩ (Nat.le_of_ble_eq_true rfl) d_law_575 (c_X12_levy G.2.2.2.1 hF2) rfl ?_
  refine l_same (tgt := 1142) C d_law_578 (by decide) ?_
  exact hend S2 hV
set_option maxRecDepth 20000 in
theorem law_case_13 {p : Program} {l : Launch} {e : Env} {s : State} {m : MethodId} {below : List Frame} {meth : Method} {c : Code} {b L : Nat} {xs : Nat → Int32} {Γ : GG} {kc ks : Nat} (hL : L ≤ 3584) (C : lw_At p s m meth c b L xs) (G : LW s b Γ kc ks) {INV : Mem → Prop} (OK : OKall INV) {i : Nat} (hi : i + 7 ≤ L) {S : Mem} (hS0 : INV S) (hend : ∀ S2 : Mem, INV S2 → LZ p l e s m below meth c b Γ kc ks S2 1142 [(0, aR 500), (1, aR 1), (2, aR 20), (3, aI (nI i))] []) : LZ p l e s m below meth c b Γ kc ks S 583 [(0, aR 500), (1, aR 1), (2, aR 20), (3, aI (nI i))] [] := by
  refine l_aload_n (h := 1) (j := 1) C (by decide) d_law_583 rfl ?_
  refine l_aload_n (h := 500) (j := 0) C (by decide) d_law_584 rfl ?_
  refine l_iload_n (j := 3) C d_law_585 rfl ?_
  refine l_iconst (v := nI 1) C d_law_586 (by decide) ?_
  refine l_iadd C d_law_587 ?_
  refine l_sld C G (vp_off (k := 1) (by omega) hL) d_law_588 ?_
  refine l_aload_n (h := 500) (j := 0) C (by decide) d_law_589 rfl ?_
  refine l_iload_n (j := 3) C d_law_590 rfl ?_
  refine l_iconst (v := nI 2) C d_law_591 (by decide) ?_
  refine l_iadd C d_law_592 ?_
  refine l_sld C G (vp_off (k := 2) (by omega) hL) d_law_593 ?_
  refine l_aload_n (h := 500) (j := 0) C (by decide) d_law_594 rfl ?_
  refine l_iload_n (j := 3) C d_law_595 rfl ?_
  refine l_iconst (v := nI 3) C d_law_596 (by decide) ?_
  refine l_iadd C d_law_597 ?_
  refine l_sld C G (vp_off (k := 3) (by omega) hL) d_law_598 ?_
  refine l_aload_n (h := 500) (j := 0) C (by decide) d_law_599 rfl ?_
  refine l_iload_n (j := 3) C d_law_600 rfl ?_
  refine l_iconst (v := nI 4) C d_law_601 (by decide) ?_
  refine l_iadd C d_law_602 ?_
  refine l_sld C G (vp_off (k := 4) (by omega) hL) d_law_603 ?_
  refine l_aload_n (h := 500) (j := 0) C (by decide) d_law_604 rfl ?_
  refine l_iload_n (j := 3) C d_law_605 rfl ?_
  refine l_iconst (v := nI 5) C d_law_606 (by decide) ?_
  refine l_iadd C d_law_607 ?_
  refine l_sld C G (vp_off (k := 5) (by omega) hL) d_law_608 ?_
  obtain ⟨r, S1, S2, hF1, hF2, hV⟩ := OK.2.2.2.2.2.2.2.2.2.2.2.2.2.1 (xs (nI i + nI 1).toNatClampNeg) (xs (nI i + nI 2).toNatClampNeg) (xs (nI i + nI 3).toNatClampNeg) (xs (nI i + nI 4).toNatClampNeg) (xs (nI i + nI 5).toNatClampNeg) S hS0
  refine l_call (rest := []) C G [aI (xs (nI i + nI 1).toNatClampNeg), aI (xs (nI i + nI 2).toNatClampNeg), aI (xs (nI i + nI 3).toNatClampNeg), aI (xs (nI i + nI 4).toNatClampNeg), aI (xs (nI i + nI 5).toNatClampNeg)] rfl (by decide) rfl rfl k_X11_in tw_1063 ⟨by decide, by decide⟩ (Nat.le_of_ble_eq_true rfl) d_law_609 (c_X11_in G.2.2.2.1 hF1) rfl ?_
  refine l_aload_n (h := 20) (j := 2) C (by decide) d_law_612 rfl ?_
  refine l_aload_n (h := 500) (j := 0) C (by decide) d_law_613 rfl ?_
  refine l_iload_n (j := 3) C d_law_614 rfl ?_
  refine l_iconst (v := nI 1) C d_law_615 (by decide) ?_
  refine l_iadd C d_law_616 ?_
  refine l_sld C G (vp_off (k := 1) (by omega) hL) d_law_617 ?_
  refine l_aload_n (h := 500) (j := 0) C (by decide) d_law_618 rfl ?_
  refine l_iload_n (j := 3) C d_law_619 rfl ?_
  refine l_iconst (v := nI 2) C d_law_620 (by decide) ?_
  refine l_iadd C d_law_621 ?_
  refine l_sld C G (vp_off (k := 2) (by omega) hL) d_law_622 ?_
  refine l_aload_n (h := 500) (j := 0) C (by decide) d_law_623 rfl ?_
  refine l_iload_n (j := 3) C d_law_624 rfl ?_
  refine l_iconst (v := nI 3) C d_law_625 (by decide) ?_
  refine l_iadd C d_law_626 ?_
  refine l_sld C G (vp_off (k := 3) (by omega) hL) d_law_627 ?_
  refine l_aload_n (h := 500) (j := 0) C (by decide) d_law_628 rfl ?_
  refine l_iload_n (j := 3) C d_law_629 rfl ?_
  refine l_iconst (v := nI 4) C d_law_630 (by decide) ?_
  refine l_iadd C d_law_631 ?_
  refine l_sld C G (vp_off (k := 4) (by omega) hL) d_law_632 ?_
  refine l_aload_n (h := 500) (j := 0) C (by decide) d_law_633 rfl ?_
  refine l_iload_n (j := 3) C d_law_634 rfl ?_
  refine l_iconst (v := nI 5) C d_law_635 (by decide) ?_
  refine l_iadd C d_law_636 ?_
  refine l_sld C G (vp_off (k := 5) (by omega) hL) d_law_637 ?_
  refine l_call (rest := [aI r]) C G [aI (xs (nI i + nI 1).toNatClampNeg), aI (xs (nI i + nI 2).toNatClampNeg), aI (xs (nI i + nI 3).toNatClampNeg), aI (xs (nI i + nI 4).toNatClampNeg), aI (xs (nI i + nI 5).toNatClampNeg)] rfl (by decide) rfl rfl k_X12_in tw_1596 ⟨by decide, by decide⟩ (Nat.le_of_ble_eq_true rfl) d_law_638 (c_X12_in G.2.2.2.1 hF2) rfl ?_
  refine l_same (tgt := 1142) C d_law_641 (by decide) ?_
  exact hend S2 hV
set_option maxRecDepth 20000 in
theorem law_case_14 {p : Program} {l : Launch} {e : Env} {s : State} {m : MethodId} {below : List Frame} {meth : Method} {c : Code} {b L : Nat} {xs : Nat → Int32} {Γ : GG} {kc ks : Nat} (hL : L ≤ 3584) (C : lw_At p s m meth c b L xs) (G : LW s b Γ kc ks) {INV : Mem → Prop} (OK : OKall INV) {i : Nat} (hi : i + 7 ≤ L) {S : Mem} (hS0 : INV S) (hend : ∀ S2 : Mem, INV S2 → LZ p l e s m below meth c b Γ kc ks S2 1142 [(0, aR 500), (1, aR 1), (2, aR 20), (3, aI (nI i))] []) : LZ p l e s m below meth c b Γ kc ks S 646 [(0, aR 500), (1, aR 1), (2, aR 20), (3, aI (nI i))] [] := by
  refine l_aload_n (h := 1) (j := 1) C (by decide) d_law_646 rfl ?_
  refine l_aload_n (h := 500) (j := 0) C (by decide) d_law_647 rfl ?_
  refine l_iload_n (j := 3) C d_law_648 rfl ?_
  refine l_iconst (v := nI 1) C d_law_649 (by decide) ?_
  refine l_iadd C d_law_650 ?_
  refine l_sld C G (vp_off (k := 1) (by omega) hL) d_law_651 ?_
  refine l_aload_n (h := 500) (j := 0) C (by decide) d_law_652 rfl ?_
  refine l_iload_n (j := 3) C d_law_653 rfl ?_
  refine l_iconst (v := nI 2) C d_law_654 (by decide) ?_
  refine l_iadd C d_law_655 ?_
  refine l_sld C G (vp_off (k := 2) (by omega) hL) d_law_656 ?_
  refine l_aload_n (h := 500) (j := 0) C (by decide) d_law_657 rfl ?_
  refine l_iload_n (j := 3) C d_law_658 rfl ?_
  refine l_iconst (v := nI 3) C d_law_659 (by decide) ?_
  refine l_iadd C d_law_660 ?_
  refine l_sld C G (vp_off (k := 3) (by omega) hL) d_law_661 ?_
  refine l_aload_n (h := 500) (j := 0) C (by decide) d_law_662 rfl ?_
  refine l_iload_n (j := 3) C d_law_663 rfl ?_
  refine l_iconst (v := nI 4) C d_law_664 (by decide) ?_
  refine l_iadd C d_law_665 ?_
  refine l_sld C G (vp_off (k := 4) (by omega) hL) d_law_666 ?_
  obtain ⟨r, S1, S2, hF1, hF2, hV⟩ := OK.2.2.2.2.2.2.2.2.2.2.2.2.2.2.1 (xs (nI i + nI 1).toNatClampNeg) (xs (nI i + nI 2).toNatClampNeg) (xs (nI i + nI 3).toNatClampNeg) (xs (nI i + nI 4).toNatClampNeg) S hS0
  refine l_call (rest := []) C G [aI (xs (nI i + nI 1).toNatClampNeg), aI (xs (nI i + nI 2).toNatClampNeg), aI (xs (nI i + nI 3).toNatClampNeg), aI (xs (nI i + nI 4).toNatClampNeg)] rfl (by decide) rfl rfl k_X11_out tw_1070 ⟨by decide, by decide⟩ (Nat.le_of_ble_eq_true rfl) d_law_667 (c_X11_out G.2.2.2.1 hF1) rfl ?_
  refine l_aload_n (h := 20) (j := 2) C (by decide) d_law_670 rfl ?_
  refine l_aload_n (h := 500) (j := 0) C (by decide) d_law_671 rfl ?_
  refine l_iload_n (j := 3) C d_law_672 rfl ?_
  refine l_iconst (v := nI 1) C d_law_673 (by decide) ?_
  refine l_iadd C d_law_674 ?_
  refine l_sld C G (vp_off (k := 1) (by omega) hL) d_law_675 ?_
  refine l_aload_n (h := 500) (j := 0) C (by decide) d_law_676 rfl ?_
  refine l_iload_n (j := 3) C d_law_677 rfl ?_
  refine l_iconst (v := nI 2) C d_law_678 (by decide) ?_
  refine l_iadd C d_law_679 ?_
  refine l_sld C G (vp_off (k := 2) (by omega) hL) d_law_680 ?_
  refine l_aload_n (h := 500) (j := 0) C (by decide) d_law_681 rfl ?_
  refine l_iload_n (j := 3) C d_law_682 rfl ?_
  refine l_iconst (v := nI 3) C d_law_683 (by decide) ?_
  refine l_iadd C d_law_684 ?_
  refine l_sld C G (vp_off (k := 3) (by omega) hL) d_law_685 ?_
  refine l_aload_n (h := 500) (j := 0) C (by decide) d_law_686 rfl ?_
  refine l_iload_n (j := 3) C d_law_687 rfl ?_
  refine l_iconst (v := nI 4) C d_law_688 (by decide) ?_
  refine l_iadd C d_law_689 ?_
  refine l_sld C G (vp_off (k := 4) (by omega) hL) d_law_690 ?_
  refine l_call (rest := [aI r]) C G [aI (xs (nI i + nI 1).toNatClampNeg), aI (xs (nI i + nI 2).toNatClampNeg), aI (xs (nI i + nI 3).toNatClampNeg), aI (xs (nI i + nI 4).toNatClampNeg)] rfl (by decide) rfl rfl k_X12_out tw_1666 ⟨by decide, by decide⟩ (Nat.le_of_ble_eq_true rfl) d_law_691 (c_X12_out G.2.2.2.1 hF2) rfl ?_
  refine l_same (tgt := 1142) C d_law_694 (by decide) ?_
  exact hend S2 hV
set_option maxRecDepth 20000 in
theorem law_case_15 {p : Program} {l : Launch} {e : Env} {s : State} {m : MethodId} {below : List Frame} {meth : Method} {c : Code} {b L : Nat} {xs : Nat → Int32} {Γ : GG} {kc ks : Nat} (hL : L ≤ 3584) (C : lw_At p s m meth c b L xs) (G : LW s b Γ kc ks) {INV : Mem → Prop} (OK : OKall INV) {i : Nat} (hi : i + 7 ≤ L) {S : Mem} (hS0 : INV S) (hend : ∀ S2 : Mem, INV S2 → LZ p l e s m below meth c b Γ kc ks S2 1142 [(0, aR 500), (1, aR 1), (2, aR 20), (3, aI (nI i))] []) : LZ p l e s m below meth c b Γ kc ks S 699 [(0, aR 500), (1, aR 1), (2, aR 20), (3, aI (nI i))] [] := by
  refine l_aload_n (h := 1) (j := 1) C (by decide) d_law_699 rfl ?_
  refine l_aload_n (h := 500) (j := 0) C (by decide) d_law_700 rfl ?_
  refine l_iload_n (j := 3) C d_law_701 rfl ?_
  refine l_iconst (v := nI 1) C d_law_702 (by decide) ?_
  refine l_iadd C d_law_703 ?_
  refine l_sld C G (vp_off (k := 1) (by omega) hL) d_law_704 ?_
  obtain ⟨r, S1, S2, hF1, hF2, hV⟩ := OK.2.2.2.2.2.2.2.2.2.2.2.2.2.2.2.1 (xs (nI i + nI 1).toNatClampNeg) S hS0
  refine l_call (rest := []) C G [aI (xs (nI i + nI 1).toNatClampNeg)] rfl (by decide) rfl rfl k_X11_passes tw_1079 ⟨by decide, by decide⟩ (Nat.le_of_ble_eq_true rfl) d_law_705 (c_X11_passes G.2.2.2.1 hF1) rfl ?_
  refine l_aload_n (h := 20) (j := 2) C (by decide) d_law_708 rfl ?_
  refine l_aload_n (h := 500) (j := 0) C (by decide) d_law_709 rfl ?_
  refine l_iload_n (j := 3) C d_law_710 rfl ?_
  refine l_iconst (v := nI 1) C d_law_711 (by decide) ?_
  refine l_iadd C d_law_712 ?_
  refine l_sld C G (vp_off (k := 1) (by omega) hL) d_law_713 ?_
  refine l_call (rest := [aI r]) C G [aI (xs (nI i + nI 1).toNatClampNeg)] rfl (by decide) rfl rfl k_X12_passes tw_1590 ⟨by decide, by decide⟩ (Nat.le_of_ble_eq_true rfl) d_law_714 (c_X12_passes G.2.2.2.1 hF2) rfl ?_
  refine l_same (tgt := 1142) C d_law_717 (by decide) ?_
  exact hend S2 hV
set_option maxRecDepth 20000 in
theorem law_case_16 {p : Program} {l : Launch} {e : Env} {s : State} {m : MethodId} {below : List Frame} {meth : Method} {c : Code} {b L : Nat} {xs : Nat → Int32} {Γ : GG} {kc ks : Nat} (hL : L ≤ 3584) (C : lw_At p s m meth c b L xs) (G : LW s b Γ kc ks) {INV : Mem → Prop} (OK : OKall INV) {i : Nat} (hi : i + 7 ≤ L) {S : Mem} (hS0 : INV S) (hend : ∀ S2 : Mem, INV S2 → LZ p l e s m below meth c b Γ kc ks S2 1142 [(0, aR 500), (1, aR 1), (2, aR 20), (3, aI (nI i))] []) : LZ p l e s m below meth c b Γ kc ks S 722 [(0, aR 500), (1, aR 1), (2, aR 20), (3, aI (nI i))] [] := by
  refine l_aload_n (h := 1) (j := 1) C (by decide) d_law_722 rfl ?_
  refine l_aload_n (h := 500) (j := 0) C (by decide) d_law_723 rfl ?_
  refine l_iload_n (j := 3) C d_law_724 rfl ?_
  refine l_iconst (v := nI 1) C d_law_725 (by decide) ?_
  refine l_iadd C d_law_726 ?_
  refine l_sld C G (vp_off (k := 1) (by omega) hL) d_law_727 ?_
  refine l_aload_n (h := 500) (j := 0) C (by decide) d_law_728 rfl ?_
  refine l_iload_n (j := 3) C d_law_729 rfl ?_
  refine l_iconst (v := nI 2) C d_law_730 (by decide) ?_
  refine l_iadd C d_law_731 ?_
  refine l_sld C G (vp_off (k := 2) (by omega) hL) d_law_732 ?_
  obtain ⟨r, S1, S2, hF1, hF2, hV⟩ := OK.2.2.2.2.2.2.2.2.2.2.2.2.2.2.2.2.1 (xs (nI i + nI 1).toNatClampNeg) (xs (nI i + nI 2).toNatClampNeg) S hS0
  refine l_call (rest := []) C G [aI (xs (nI i + nI 1).toNatClampNeg), aI (xs (nI i + nI 2).toNatClampNeg)] rfl (by decide) rfl rfl k_X11_mean tw_1083 ⟨by decide, by decide⟩ (Nat.le_of_ble_eq_true rfl) d_law_733 (c_X11_mean G.2.2.2.1 hF1) rfl ?_
  refine l_aload_n (h := 20) (j := 2) C (by decide) d_law_736 rfl ?_
  refine l_aload_n (h := 500) (j := 0) C (by decide) d_law_737 rfl ?_
  refine l_iload_n (j := 3) C d_law_738 rfl ?_
  refine l_iconst (v := nI 1) C d_law_739 (by decide) ?_
  refine l_iadd C d_law_740 ?_
  refine l_sld C G (vp_off (k := 1) (by omega) hL) d_law_741 ?_
  refine l_aload_n (h := 500) (j := 0) C (by decide) d_law_742 rfl ?_
  refine l_iload_n (j := 3) C d_law_743 rfl ?_
  refine l_iconst (v := nI 2) C d_law_744 (by decide) ?_
  refine l_iadd C d_law_745 ?_
  refine l_sld C G (vp_off (k := 2) (by omega) hL) d_law_746 ?_
  refine l_call (rest := [aI r]) C G [aI (xs (nI i + nI 1).toNatClampNeg), aI (xs (nI i + nI 2).toNatClampNeg)] rfl (by decide) rfl rfl k_X12_mean tw_1574 ⟨by decide, by decide⟩ (Nat.le_of_ble_eq_true rfl) d_law_747 (c_X12_mean G.2.2.2.1 hF2) rfl ?_
  refine l_same (tgt := 1142) C d_law_750 (by decide) ?_
  exact hend S2 hV
set_option maxRecDepth 20000 in
theorem law_case_17 {p : Program} {l : Launch} {e : Env} {s : State} {m : MethodId} {below : List Frame} {meth : Method} {c : Code} {b L : Nat} {xs : Nat → Int32} {Γ : GG} {kc ks : Nat} (hL : L ≤ 3584) (C : lw_At p s m meth c b L xs) (G : LW s b Γ kc ks) {INV : Mem → Prop} (OK : OKall INV) {i : Nat} (hi : i + 7 ≤ L) {S : Mem} (hS0 : INV S) (hend : ∀ S2 : Mem, INV S2 → LZ p l e s m below meth c b Γ kc ks S2 1142 [(0, aR 500), (1, aR 1), (2, aR 20), (3, aI (nI i))] []) : LZ p l e s m below meth c b Γ kc ks S 755 [(0, aR 500), (1, aR 1), (2, aR 20), (3, aI (nI i))] [] := by
  refine l_aload_n (h := 1) (j := 1) C (by decide) d_law_755 rfl ?_
  refine l_aload_n (h := 500) (j := 0) C (by decide) d_law_756 rfl ?_
  refine l_iload_n (j := 3) C d_law_757 rfl ?_
  refine l_iconst (v := nI 1) C d_law_758 (by decide) ?_
  refine l_iadd C d_law_759 ?_
  refine l_sld C G (vp_off (k := 1) (by omega) hL) d_law_760 ?_
  refine l_aload_n (h := 500) (j := 0) C (by decide) d_law_761 rfl ?_
  refine l_iload_n (j := 3) C d_law_762 rfl ?_
  refine l_iconst (v := nI 2) C d_law_763 (by decide) ?_
  refine l_iadd C d_law_764 ?_
  refine l_sld C G (vp_off (k := 2) (by omega) hL) d_law_765 ?_
  refine l_aload_n (h := 500) (j := 0) C (by decide) d_law_766 rfl ?_
  refine l_iload_n (j := 3) C d_law_767 rfl ?_
  refine l_iconst (v := nI 3) C d_law_768 (by decide) ?_
  refine l_iadd C d_law_769 ?_
  refine l_sld C G (vp_off (k := 3) (by omega) hL) d_law_770 ?_
  refine l_aload_n (h := 500) (j := 0) C (by decide) d_law_771 rfl ?_
  refine l_iload_n (j := 3) C d_law_772 rfl ?_
  refine l_iconst (v := nI 4) C d_law_773 (by decide) ?_
  refine l_iadd C d_law_774 ?_
  refine l_sld C G (vp_off (k := 4) (by omega) hL) d_law_775 ?_
  refine l_aload_n (h := 500) (j := 0) C (by decide) d_law_776 rfl ?_
  refine l_iload_n (j := 3) C d_law_777 rfl ?_
  refine l_iconst (v := nI 5) C d_law_778 (by decide) ?_
  refine l_iadd C d_law_779 ?_
  refine l_sld C G (vp_off (k := 5) (by omega) hL) d_law_780 ?_
  obtain ⟨r, S1, S2, hF1, hF2, hV⟩ := OK.2.2.2.2.2.2.2.2.2.2.2.2.2.2.2.2.2.1 (xs (nI i + nI 1).toNatClampNeg) (xs (nI i + nI 2).toNatClampNeg) (xs (nI i + nI 3).toNatClampNeg) (xs (nI i + nI 4).toNatClampNeg) (xs (nI i + nI 5).toNatClampNeg) S hS0
  refine l_call (rest := []) C G [aI (xs (nI i + nI 1).toNatClampNeg), aI (xs (nI i + nI 2).toNatClampNeg), aI (xs (nI i + nI 3).toNatClampNeg), aI (xs (nI i + nI 4).toNatClampNeg), aI (xs (nI i + nI 5).toNatClampNeg)] rfl (by decide) rfl rfl k_X11_quoteIn tw_1092 ⟨by decide, by decide⟩ (Nat.le_of_ble_eq_true rfl) d_law_781 (c_X11_quoteIn G.2.2.2.1 hF1) rfl ?_
  refine l_aload_n (h := 20) (j := 2) C (by decide) d_law_784 rfl ?_
  refine l_aload_n (h := 500) (j := 0) C (by decide) d_law_785 rfl ?_
  refine l_iload_n (j := 3) C d_law_786 rfl ?_
  refine l_iconst (v := nI 1) C d_law_787 (by decide) ?_
  refine l_iadd C d_law_788 ?_
  refine l_sld C G (vp_off (k := 1) (by omega) hL) d_law_789 ?_
  refine l_aload_n (h := 500) (j := 0) C (by decide) d_law_790 rfl ?_
  refine l_iload_n (j := 3) C d_law_791 rfl ?_
  refine l_iconst (v := nI 2) C d_law_792 (by decide) ?_
  refine l_iadd C d_law_793 ?_
  refine l_sld C G (vp_off (k := 2) (by omega) hL) d_law_794 ?_
  refine l_aload_n (h := 500) (j := 0) C (by decide) d_law_795 rfl ?_
  refine l_iload_n (j := 3) C d_law_796 rfl ?_
  refine l_iconst (v := nI 3) C d_law_797 (by decide) ?_
  refine l_iadd C d_law_798 ?_
  refine l_sld C G (vp_off (k := 3) (by omega) hL) d_law_799 ?_
  refine l_aload_n (h := 500) (j := 0) C (by decide) d_law_800 rfl ?_
  refine l_iload_n (j := 3) C d_law_801 rfl ?_
  refine l_iconst (v := nI 4) C d_law_802 (by decide) ?_
  refine l_iadd C d_law_803 ?_
  refine l_sld C G (vp_off (k := 4) (by omega) hL) d_law_804 ?_
  refine l_aload_n (h := 500) (j := 0) C (by decide) d_law_805 rfl ?_
  refine l_iload_n (j := 3) C d_law_806 rfl ?_
  refine l_iconst (v := nI 5) C d_law_807 (by decide) ?_
  refine l_iadd C d_law_808 ?_
  refine l_sld C G (vp_off (k := 5) (by omega) hL) d_law_809 ?_
  refine l_call (rest := [aI r]) C G [aI (xs (nI i + nI 1).toNatClampNeg), aI (xs (nI i + nI 2).toNatClampNeg), aI (xs (nI i + nI 3).toNatClampNeg), aI (xs (nI i + nI 4).toNatClampNeg), aI (xs (nI i + nI 5).toNatClampNeg)] rfl (by decide) rfl rfl k_X12_quoteIn tw_1794 ⟨by decide, by decide⟩ (Nat.le_of_ble_eq_true rfl) d_law_810 (c_X12_quoteIn G.2.2.2.1 hF2) rfl ?_
  refine l_same (tgt := 1142) C d_law_813 (by decide) ?_
  exact hend S2 hV
set_option maxRecDepth 20000 in
theorem law_case_18 {p : Program} {l : Launch} {e : Env} {s : State} {m : MethodId} {below : List Frame} {meth : Method} {c : Code} {b L : Nat} {xs : Nat → Int32} {Γ : GG} {kc ks : Nat} (hL : L ≤ 3584) (C : lw_At p s m meth c b L xs) (G : LW s b Γ kc ks) {INV : Mem → Prop} (OK : OKall INV) {i : Nat} (hi : i + 7 ≤ L) {S : Mem} (hS0 : INV S) (hend : ∀ S2 : Mem, INV S2 → LZ p l e s m below meth c b Γ kc ks S2 1142 [(0, aR 500), (1, aR 1), (2, aR 20), (3, aI (nI i))] []) : LZ p l e s m below meth c b Γ kc ks S 818 [(0, aR 500), (1, aR 1), (2, aR 20), (3, aI (nI i))] [] := by
  refine l_aload_n (h := 1) (j := 1) C (by decide) d_law_818 rfl ?_
  refine l_aload_n (h := 500) (j := 0) C (by decide) d_law_819 rfl ?_
  refine l_iload_n (j := 3) C d_law_820 rfl ?_
  refine l_iconst (v := nI 1) C d_law_821 (by decide) ?_
  refine l_iadd C d_law_822 ?_
  refine l_sld C G (vp_off (k := 1) (by omega) hL) d_law_823 ?_
  refine l_aload_n (h := 500) (j := 0) C (by decide) d_law_824 rfl ?_
  refine l_iload_n (j := 3) C d_law_825 rfl ?_
  refine l_iconst (v := nI 2) C d_law_826 (by decide) ?_
  refine l_iadd C d_law_827 ?_
  refine l_sld C G (vp_off (k := 2) (by omega) hL) d_law_828 ?_
  refine l_aload_n (h := 500) (j := 0) C (by decide) d_law_829 rfl ?_
  refine l_iload_n (j := 3) C d_law_830 rfl ?_
  refine l_iconst (v := nI 3) C d_law_831 (by decide) ?_
  refine l_iadd C d_law_832 ?_
  refine l_sld C G (vp_off (k := 3) (by omega) hL) d_law_833 ?_
  refine l_aload_n (h := 500) (j := 0) C (by decide) d_law_834 rfl ?_
  refine l_iload_n (j := 3) C d_law_835 rfl ?_
  refine l_iconst (v := nI 4) C d_law_836 (by decide) ?_
  refine l_iadd C d_law_837 ?_
  refine l_sld C G (vp_off (k := 4) (by omega) hL) d_law_838 ?_
  obtain ⟨r, S1, S2, hF1, hF2, hV⟩ := OK.2.2.2.2.2.2.2.2.2.2.2.2.2.2.2.2.2.2.1 (xs (nI i + nI 1).toNatClampNeg) (xs (nI i + nI 2).toNatClampNeg) (xs (nI i + nI 3).toNatClampNeg) (xs (nI i + nI 4).toNatClampNeg) S hS0
  refine l_call (rest := []) C G [aI (xs (nI i + nI 1).toNatClampNeg), aI (xs (nI i + nI 2).toNatClampNeg), aI (xs (nI i + nI 3).toNatClampNeg), aI (xs (nI i + nI 4).toNatClampNeg)] rfl (by decide) rfl rfl k_X11_quoteOut tw_1100 ⟨by decide, by decide⟩ (Nat.le_of_ble_eq_true rfl) d_law_839 (c_X11_quoteOut G.2.2.2.1 hF1) rfl ?_
  refine l_aload_n (h := 20) (j := 2) C (by decide) d_law_842 rfl ?_
  refine l_aload_n (h := 500) (j := 0) C (by decide) d_law_843 rfl ?_
  refine l_iload_n (j := 3) C d_law_844 rfl ?_
  refine l_iconst (v := nI 1) C d_law_845 (by decide) ?_
  refine l_iadd C d_law_846 ?_
  refine l_sld C G (vp_off (k := 1) (by omega) hL) d_law_847 ?_
  refine l_aload_n (h := 500) (j := 0) C (by decide) d_law_848 rfl ?_
  refine l_iload_n (j := 3) C d_law_849 rfl ?_
  refine l_iconst (v := nI 2) C d_law_850 (by decide) ?_
  refine l_iadd C d_law_851 ?_
  refine l_sld C G (vp_off (k := 2) (by omega) hL) d_law_852 ?_
  refine l_aload_n (h := 500) (j := 0) C (by decide) d_law_853 rfl ?_
  refine l_iload_n (j := 3) C d_law_854 rfl ?_
  refine l_iconst (v := nI 3) C d_law_855 (by decide) ?_
  refine l_iadd C d_law_856 ?_
  refine l_sld C G (vp_off (k := 3) (by omega) hL) d_law_857 ?_
  refine l_aload_n (h := 500) (j := 0) C (by decide) d_law_858 rfl ?_
  refine l_iload_n (j := 3) C d_law_859 rfl ?_
  refine l_iconst (v := nI 4) C d_law_860 (by decide) ?_
  refine l_iadd C d_law_861 ?_
  refine l_sld C G (vp_off (k := 4) (by omega) hL) d_law_862 ?_
  refine l_call (rest := [aI r]) C G [aI (xs (nI i + nI 1).toNatClampNeg), aI (xs (nI i + nI 2).toNatClampNeg), aI (xs (nI i + nI 3).toNatClampNeg), aI (xs (nI i + nI 4).toNatClampNeg)] rfl (by decide) rfl rfl k_X12_quoteOut tw_1799 ⟨by decide, by decide⟩ (Nat.le_of_ble_eq_true rfl) d_law_863 (c_X12_quoteOut G.2.2.2.1 hF2) rfl ?_
  refine l_same (tgt := 1142) C d_law_866 (by decide) ?_
  exact hend S2 hV
set_option maxRecDepth 20000 in
theorem law_case_19 {p : Program} {l : Launch} {e : Env} {s : State} {m : MethodId} {below : List Frame} {meth : Method} {c : Code} {b L : Nat} {xs : Nat → Int32} {Γ : GG} {kc ks : Nat} (hL : L ≤ 3584) (C : lw_At p s m meth c b L xs) (G : LW s b Γ kc ks) {INV : Mem → Prop} (OK : OKall INV) {i : Nat} (hi : i + 7 ≤ L) {S : Mem} (hS0 : INV S) (hend : ∀ S2 : Mem, INV S2 → LZ p l e s m below meth c b Γ kc ks S2 1142 [(0, aR 500), (1, aR 1), (2, aR 20), (3, aI (nI i))] []) : LZ p l e s m below meth c b Γ kc ks S 871 [(0, aR 500), (1, aR 1), (2, aR 20), (3, aI (nI i))] [] := by
  refine l_aload_n (h := 1) (j := 1) C (by decide) d_law_871 rfl ?_
  refine l_aload_n (h := 500) (j := 0) C (by decide) d_law_872 rfl ?_
  refine l_iload_n (j := 3) C d_law_873 rfl ?_
  refine l_iconst (v := nI 1) C d_law_874 (by decide) ?_
  refine l_iadd C d_law_875 ?_
  refine l_sld C G (vp_off (k := 1) (by omega) hL) d_law_876 ?_
  refine l_aload_n (h := 500) (j := 0) C (by decide) d_law_877 rfl ?_
  refine l_iload_n (j := 3) C d_law_878 rfl ?_
  refine l_iconst (v := nI 2) C d_law_879 (by decide) ?_
  refine l_iadd C d_law_880 ?_
  refine l_sld C G (vp_off (k := 2) (by omega) hL) d_law_881 ?_
  refine l_aload_n (h := 500) (j := 0) C (by decide) d_law_882 rfl ?_
  refine l_iload_n (j := 3) C d_law_883 rfl ?_
  refine l_iconst (v := nI 3) C d_law_884 (by decide) ?_
  refine l_iadd C d_law_885 ?_
  refine l_sld C G (vp_off (k := 3) (by omega) hL) d_law_886 ?_
  obtain ⟨r, S1, S2, hF1, hF2, hV⟩ := OK.2.2.2.2.2.2.2.2.2.2.2.2.2.2.2.2.2.2.2.1 (xs (nI i + nI 1).toNatClampNeg) (xs (nI i + nI 2).toNatClampNeg) (xs (nI i + nI 3).toNatClampNeg) S hS0
  refine l_call (rest := []) C G [aI (xs (nI i + nI 1).toNatClampNeg), aI (xs (nI i + nI 2).toNatClampNeg), aI (xs (nI i + nI 3).toNatClampNeg)] rfl (by decide) rfl rfl k_X11_round tw_1104 ⟨by decide, by decide⟩ (Nat.le_of_ble_eq_true rfl) d_law_887 (c_X11_round G.2.2.2.1 hF1) rfl ?_
  refine l_aload_n (h := 20) (j := 2) C (by decide) d_law_890 rfl ?_
  refine l_aload_n (h := 500) (j := 0) C (by decide) d_law_891 rfl ?_
  refine l_iload_n (j := 3) C d_law_892 rfl ?_
  refine l_iconst (v := nI 1) C d_law_893 (by decide) ?_
  refine l_iadd C d_law_894 ?_
  refine l_sld C G (vp_off (k := 1) (by omega) hL) d_law_895 ?_
  refine l_aload_n (h := 500) (j := 0) C (by decide) d_law_896 rfl ?_
  refine l_iload_n (j := 3) C d_law_897 rfl ?_
  refine l_iconst (v := nI 2) C d_law_898 (by decide) ?_
  refine l_iadd C d_law_899 ?_
  refine l_sld C G (vp_off (k := 2) (by omega) hL) d_law_900 ?_
  refine l_aload_n (h := 500) (j := 0) C (by decide) d_law_901 rfl ?_
  refine l_iload_n (j := 3) C d_law_902 rfl ?_
  refine l_iconst (v := nI 3) C d_law_903 (by decide) ?_
  refine l_iadd C d_law_904 ?_
  refine l_sld C G (vp_off (k := 3) (by omega) hL) d_law_905 ?_
  refine l_call (rest := [aI r]) C G [aI (xs (nI i + nI 1).toNatClampNeg), aI (xs (nI i + nI 2).toNatClampNeg), aI (xs (nI i + nI 3).toNatClampNeg)] rfl (by decide) rfl rfl k_X12_round tw_1804 ⟨by decide, by decide⟩ (Nat.le_of_ble_eq_true rfl) d_law_906 (c_X12_round G.2.2.2.1 hF2) rfl ?_
  refine l_same (tgt := 1142) C d_law_909 (by decide) ?_
  exact hend S2 hV
set_option maxRecDepth 20000 in
theorem law_case_20 {p : Program} {l : Launch} {e : Env} {s : State} {m : MethodId} {below : List Frame} {meth : Method} {c : Code} {b L : Nat} {xs : Nat → Int32} {Γ : GG} {kc ks : Nat} (hL : L ≤ 3584) (C : lw_At p s m meth c b L xs) (G : LW s b Γ kc ks) {INV : Mem → Prop} (OK : OKall INV) {i : Nat} (hi : i + 7 ≤ L) {S : Mem} (hS0 : INV S) (hend : ∀ S2 : Mem, INV S2 → LZ p l e s m below meth c b Γ kc ks S2 1142 [(0, aR 500), (1, aR 1), (2, aR 20), (3, aI (nI i))] []) : LZ p l e s m below meth c b Γ kc ks S 914 [(0, aR 500), (1, aR 1), (2, aR 20), (3, aI (nI i))] [] := by
  refine l_aload_n (h := 1) (j := 1) C (by decide) d_law_914 rfl ?_
  refine l_aload_n (h := 500) (j := 0) C (by decide) d_law_915 rfl ?_
  refine l_iload_n (j := 3) C d_law_916 rfl ?_
  refine l_iconst (v := nI 1) C d_law_917 (by decide) ?_
  refine l_iadd C d_law_918 ?_
  refine l_sld C G (vp_off (k := 1) (by omega) hL) d_law_919 ?_
  refine l_aload_n (h := 500) (j := 0) C (by decide) d_law_920 rfl ?_
  refine l_iload_n (j := 3) C d_law_921 rfl ?_
  refine l_iconst (v := nI 2) C d_law_922 (by decide) ?_
  refine l_iadd C d_law_923 ?_
  refine l_sld C G (vp_off (k := 2) (by omega) hL) d_law_924 ?_
  refine l_aload_n (h := 500) (j := 0) C (by decide) d_law_925 rfl ?_
  refine l_iload_n (j := 3) C d_law_926 rfl ?_
  refine l_iconst (v := nI 3) C d_law_927 (by decide) ?_
  refine l_iadd C d_law_928 ?_
  refine l_sld C G (vp_off (k := 3) (by omega) hL) d_law_929 ?_
  obtain ⟨r, S1, S2, hF1, hF2, hV⟩ := OK.2.2.2.2.2.2.2.2.2.2.2.2.2.2.2.2.2.2.2.2.1 (xs (nI i + nI 1).toNatClampNeg) (xs (nI i + nI 2).toNatClampNeg) (xs (nI i + nI 3).toNatClampNeg) S hS0
  refine l_call (rest := []) C G [aI (xs (nI i + nI 1).toNatClampNeg), aI (xs (nI i + nI 2).toNatClampNeg), aI (xs (nI i + nI 3).toNatClampNeg)] rfl (by decide) rfl rfl k_X11_least tw_1109 ⟨by decide, by decide⟩ (Nat.le_of_ble_eq_true rfl) d_law_930 (c_X11_least G.2.2.2.1 hF1) rfl ?_
  refine l_aload_n (h := 20) (j := 2) C (by decide) d_law_933 rfl ?_
  refine l_aload_n (h := 500) (j := 0) C (by decide) d_law_934 rfl ?_
  refine l_iload_n (j := 3) C d_law_935 rfl ?_
  refine l_iconst (v := nI 1) C d_law_936 (by decide) ?_
  refine l_iadd C d_law_937 ?_
  refine l_sld C G (vp_off (k := 1) (by omega) hL) d_law_938 ?_
  refine l_aload_n (h := 500) (j := 0) C (by decide) d_law_939 rfl ?_
  refine l_iload_n (j := 3) C d_law_940 rfl ?_
  refine l_iconst (v := nI 2) C d_law_941 (by decide) ?_
  refine l_iadd C d_law_942 ?_
  refine l_sld C G (vp_off (k := 2) (by omega) hL) d_law_943 ?_
  refine l_aload_n (h := 500) (j := 0) C (by decide) d_law_944 rfl ?_
  refine l_iload_n (j := 3) C d_law_945 rfl ?_
  refine l_iconst (v := nI 3) C d_law_946 (by decide) ?_
  refine l_iadd C d_law_947 ?_
  refine l_sld C G (vp_off (k := 3) (by omega) hL) d_law_948 ?_
  refine l_call (rest := [aI r]) C G [aI (xs (nI i + nI 1).toNatClampNeg), aI (xs (nI i + nI 2).toNatClampNeg), aI (xs (nI i + nI 3).toNatClampNeg)] rfl (by decide) rfl rfl k_X12_least tw_1808 ⟨by decide, by decide⟩ (Nat.le_of_ble_eq_true rfl) d_law_949 (c_X12_least G.2.2.2.1 hF2) rfl ?_
  refine l_same (tgt := 1142) C d_law_952 (by decide) ?_
  exact hend S2 hV
set_option maxRecDepth 20000 in
theorem law_case_21 {p : Program} {l : Launch} {e : Env} {s : State} {m : MethodId} {below : List Frame} {meth : Method} {c : Code} {b L : Nat} {xs : Nat → Int32} {Γ : GG} {kc ks : Nat} (hL : L ≤ 3584) (C : lw_At p s m meth c b L xs) (G : LW s b Γ kc ks) {INV : Mem → Prop} (OK : OKall INV) {i : Nat} (hi : i + 7 ≤ L) {S : Mem} (hS0 : INV S) (hend : ∀ S2 : Mem, INV S2 → LZ p l e s m below meth c b Γ kc ks S2 1142 [(0, aR 500), (1, aR 1), (2, aR 20), (3, aI (nI i))] []) : LZ p l e s m below meth c b Γ kc ks S 957 [(0, aR 500), (1, aR 1), (2, aR 20), (3, aI (nI i))] [] := by
  refine l_aload_n (h := 1) (j := 1) C (by decide) d_law_957 rfl ?_
  refine l_aload_n (h := 500) (j := 0) C (by decide) d_law_958 rfl ?_
  refine l_iload_n (j := 3) C d_law_959 rfl ?_
  refine l_iconst (v := nI 1) C d_law_960 (by decide) ?_
  refine l_iadd C d_law_961 ?_
  refine l_sld C G (vp_off (k := 1) (by omega) hL) d_law_962 ?_
  refine l_aload_n (h := 500) (j := 0) C (by decide) d_law_963 rfl ?_
  refine l_iload_n (j := 3) C d_law_964 rfl ?_
  refine l_iconst (v := nI 2) C d_law_965 (by decide) ?_
  refine l_iadd C d_law_966 ?_
  refine l_sld C G (vp_off (k := 2) (by omega) hL) d_law_967 ?_
  refine l_aload_n (h := 500) (j := 0) C (by decide) d_law_968 rfl ?_
  refine l_iload_n (j := 3) C d_law_969 rfl ?_
  refine l_iconst (v := nI 3) C d_law_970 (by decide) ?_
  refine l_iadd C d_law_971 ?_
  refine l_sld C G (vp_off (k := 3) (by omega) hL) d_law_972 ?_
  refine l_aload_n (h := 500) (j := 0) C (by decide) d_law_973 rfl ?_
  refine l_iload_n (j := 3) C d_law_974 rfl ?_
  refine l_iconst (v := nI 4) C d_law_975 (by decide) ?_
  refine l_iadd C d_law_976 ?_
  refine l_sld C G (vp_off (k := 4) (by omega) hL) d_law_977 ?_
  obtain ⟨r, S1, S2, hF1, hF2, hV⟩ := OK.2.2.2.2.2.2.2.2.2.2.2.2.2.2.2.2.2.2.2.2.2.1 (xs (nI i + nI 1).toNatClampNeg) (xs (nI i + nI 2).toNatClampNeg) (xs (nI i + nI 3).toNatClampNeg) (xs (nI i + nI 4).toNatClampNeg) S hS0
  refine l_call (rest := []) C G [aI (xs (nI i + nI 1).toNatClampNeg), aI (xs (nI i + nI 2).toNatClampNeg), aI (xs (nI i + nI 3).toNatClampNeg), aI (xs (nI i + nI 4).toNatClampNeg)] rfl (by decide) rfl rfl k_X11_route tw_1117 ⟨by decide, by decide⟩ (Nat.le_of_ble_eq_true rfl) d_law_978 (c_X11_route G.2.2.2.1 hF1) rfl ?_
  refine l_aload_n (h := 20) (j := 2) C (by decide) d_law_981 rfl ?_
  refine l_aload_n (h := 500) (j := 0) C (by decide) d_law_982 rfl ?_
  refine l_iload_n (j := 3) C d_law_983 rfl ?_
  refine l_iconst (v := nI 1) C d_law_984 (by decide) ?_
  refine l_iadd C d_law_985 ?_
  refine l_sld C G (vp_off (k := 1) (by omega) hL) d_law_986 ?_
  refine l_aload_n (h := 500) (j := 0) C (by decide) d_law_987 rfl ?_
  refine l_iload_n (j := 3) C d_law_988 rfl ?_
  refine l_iconst (v := nI 2) C d_law_989 (by decide) ?_
  refine l_iadd C d_law_990 ?_
  refine l_sld C G (vp_off (k := 2) (by omega) hL) d_law_991 ?_
  refine l_aload_n (h := 500) (j := 0) C (by decide) d_law_992 rfl ?_
  refine l_iload_n (j := 3) C d_law_993 rfl ?_
  refine l_iconst (v := nI 3) C d_law_994 (by decide) ?_
  refine l_iadd C d_law_995 ?_
  refine l_sld C G (vp_off (k := 3) (by omega) hL) d_law_996 ?_
  refine l_aload_n (h := 500) (j := 0) C (by decide) d_law_997 rfl ?_
  refine l_iload_n (j := 3) C d_law_998 rfl ?_
  refine l_iconst (v := nI 4) C d_law_999 (by decide) ?_
  refine l_iadd C d_law_1000 ?_
  refine l_sld C G (vp_off (k := 4) (by omega) hL) d_law_1001 ?_
  refine l_call (rest := [aI r]) C G [aI (xs (nI i + nI 1).toNatClampNeg), aI (xs (nI i + nI 2).toNatClampNeg), aI (xs (nI i + nI 3).toNatClampNeg), aI (xs (nI i + nI 4).toNatClampNeg)] rfl (by decide) rfl rfl k_X12_route tw_1828 ⟨by decide, by decide⟩ (Nat.le_of_ble_eq_true rfl) d_law_1002 (c_X12_route G.2.2.2.1 hF2) rfl ?_
  refine l_same (tgt := 1142) C d_law_1005 (by decide) ?_
  exact hend S2 hV
set_option maxRecDepth 20000 in
theorem law_case_22 {p : Program} {l : Launch} {e : Env} {s : State} {m : MethodId} {below : List Frame} {meth : Method} {c : Code} {b L : Nat} {xs : Nat → Int32} {Γ : GG} {kc ks : Nat} (hL : L ≤ 3584) (C : lw_At p s m meth c b L xs) (G : LW s b Γ kc ks) {INV : Mem → Prop} (OK : OKall INV) {i : Nat} (hi : i + 7 ≤ L) {S : Mem} (hS0 : INV S) (hend : ∀ S2 : Mem, INV S2 → LZ p l e s m below meth c b Γ kc ks S2 1142 [(0, aR 500), (1, aR 1), (2, aR 20), (3, aI (nI i))] []) : LZ p l e s m below meth c b Γ kc ks S 1010 [(0, aR 500), (1, aR 1), (2, aR 20), (3, aI (nI i))] [] := by
  refine l_aload_n (h := 1) (j := 1) C (by decide) d_law_1010 rfl ?_
  refine l_aload_n (h := 500) (j := 0) C (by decide) d_law_1011 rfl ?_
  refine l_iload_n (j := 3) C d_law_1012 rfl ?_
  refine l_iconst (v := nI 1) C d_law_1013 (by decide) ?_
  refine l_iadd C d_law_1014 ?_
  refine l_sld C G (vp_off (k := 1) (by omega) hL) d_law_1015 ?_
  refine l_aload_n (h := 500) (j := 0) C (by decide) d_law_1016 rfl ?_
  refine l_iload_n (j := 3) C d_law_1017 rfl ?_
  refine l_iconst (v := nI 2) C d_law_1018 (by decide) ?_
  refine l_iadd C d_law_1019 ?_
  refine l_sld C G (vp_off (k := 2) (by omega) hL) d_law_1020 ?_
  refine l_aload_n (h := 500) (j := 0) C (by decide) d_law_1021 rfl ?_
  refine l_iload_n (j := 3) C d_law_1022 rfl ?_
  refine l_iconst (v := nI 3) C d_law_1023 (by decide) ?_
  refine l_iadd C d_law_1024 ?_
  refine l_sld C G (vp_off (k := 3) (by omega) hL) d_law_1025 ?_
  refine l_aload_n (h := 500) (j := 0) C (by decide) d_law_1026 rfl ?_
  refine l_iload_n (j := 3) C d_law_1027 rfl ?_
  refine l_iconst (v := nI 4) C d_law_1028 (by decide) ?_
  refine l_iadd C d_law_1029 ?_
  refine l_sld C G (vp_off (k := 4) (by omega) hL) d_law_1030 ?_
  obtain ⟨r, S1, S2, hF1, hF2, hV⟩ := OK.2.2.2.2.2.2.2.2.2.2.2.2.2.2.2.2.2.2.2.2.2.2.1 (xs (nI i + nI 1).toNatClampNeg) (xs (nI i + nI 2).toNatClampNeg) (xs (nI i + nI 3).toNatClampNeg) (xs (nI i + nI 4).toNatClampNeg) S hS0
  refine l_call (rest := []) C G [aI (xs (nI i + nI 1).toNatClampNeg), aI (xs (nI i + nI 2).toNatClampNeg), aI (xs (nI i + nI 3).toNatClampNeg), aI (xs (nI i + nI 4).toNatClampNeg)] rfl (by decide) rfl rfl k_X11_parts tw_1163 ⟨by decide, by decide⟩ (Nat.le_of_ble_eq_true rfl) d_law_1031 (c_X11_parts G.2.2.2.1 hF1) rfl ?_
  refine l_aload_n (h := 20) (j := 2) C (by decide) d_law_1034 rfl ?_
  refine l_aload_n (h := 500) (j := 0) C (by decide) d_law_1035 rfl ?_
  refine l_iload_n (j := 3) C d_law_1036 rfl ?_
  refine l_iconst (v := nI 1) C d_law_1037 (by decide) ?_
  refine l_iadd C d_law_1038 ?_
  refine l_sld C G (vp_off (k := 1) (by omega) hL) d_law_1039 ?_
  refine l_aload_n (h := 500) (j := 0) C (by decide) d_law_1040 rfl ?_
  refine l_iload_n (j := 3) C d_law_1041 rfl ?_
  refine l_iconst (v := nI 2) C d_law_1042 (by decide) ?_
  refine l_iadd C d_law_1043 ?_
  refine l_sld C G (vp_off (k := 2) (by omega) hL) d_law_1044 ?_
  refine l_aload_n (h := 500) (j := 0) C (by decide) d_law_1045 rfl ?_
  refine l_iload_n (j := 3) C d_law_1046 rfl ?_
  refine l_iconst (v := nI 3) C d_law_1047 (by decide) ?_
  refine l_iadd C d_law_1048 ?_
  refine l_sld C G (vp_off (k := 3) (by omega) hL) d_law_1049 ?_
  refine l_aload_n (h := 500) (j := 0) C (by decide) d_law_1050 rfl ?_
  refine l_iload_n (j := 3) C d_law_1051 rfl ?_
  refine l_iconst (v := nI 4) C d_law_1052 (by decide) ?_
  refine l_iadd C d_law_1053 ?_
  refine l_sld C G (vp_off (k := 4) (by omega) hL) d_law_1054 ?_
  refine l_call (rest := [aI r]) C G [aI (xs (nI i + nI 1).toNatClampNeg), aI (xs (nI i + nI 2).toNatClampNeg), aI (xs (nI i + nI 3).toNatClampNeg), aI (xs (nI i + nI 4).toNatClampNeg)] rfl (by decide) rfl rfl k_X12_parts tw_1854 ⟨by decide, by decide⟩ (Nat.le_of_ble_eq_true rfl) d_law_1055 (c_X12_parts G.2.2.2.1 hF2) rfl ?_
  refine l_same (tgt := 1142) C d_law_1058 (by decide) ?_
  exact hend S2 hV
set_option maxRecDepth 20000 in
theorem law_case_23 {p : Program} {l : Launch} {e : Env} {s : State} {m : MethodId} {below : List Frame} {meth : Method} {c : Code} {b L : Nat} {xs : Nat → Int32} {Γ : GG} {kc ks : Nat} (hL : L ≤ 3584) (C : lw_At p s m meth c b L xs) (G : LW s b Γ kc ks) {INV : Mem → Prop} (OK : OKall INV) {i : Nat} (hi : i + 7 ≤ L) {S : Mem} (hS0 : INV S) (hend : ∀ S2 : Mem, INV S2 → LZ p l e s m below meth c b Γ kc ks S2 1142 [(0, aR 500), (1, aR 1), (2, aR 20), (3, aI (nI i))] []) : LZ p l e s m below meth c b Γ kc ks S 1063 [(0, aR 500), (1, aR 1), (2, aR 20), (3, aI (nI i))] [] := by
  refine l_aload_n (h := 1) (j := 1) C (by decide) d_law_1063 rfl ?_
  refine l_aload_n (h := 500) (j := 0) C (by decide) d_law_1064 rfl ?_
  refine l_iload_n (j := 3) C d_law_1065 rfl ?_
  refine l_iconst (v := nI 1) C d_law_1066 (by decide) ?_
  refine l_iadd C d_law_1067 ?_
  refine l_sld C G (vp_off (k := 1) (by omega) hL) d_law_1068 ?_
  refine l_aload_n (h := 500) (j := 0) C (by decide) d_law_1069 rfl ?_
  refine l_iload_n (j := 3) C d_law_1070 rfl ?_
  refine l_iconst (v := nI 2) C d_law_1071 (by decide) ?_
  refine l_iadd C d_law_1072 ?_
  refine l_sld C G (vp_off (k := 2) (by omega) hL) d_law_1073 ?_
  obtain ⟨r, S1, S2, hF1, hF2, hV⟩ := OK.2.2.2.2.2.2.2.2.2.2.2.2.2.2.2.2.2.2.2.2.2.2.2.1 (xs (nI i + nI 1).toNatClampNeg) (xs (nI i + nI 2).toNatClampNeg) S hS0
  refine l_call (rest := []) C G [aI (xs (nI i + nI 1).toNatClampNeg), aI (xs (nI i + nI 2).toNatClampNeg)] rfl (by decide) rfl rfl k_X11_ring tw_1175 ⟨by decide, by decide⟩ (Nat.le_of_ble_eq_true rfl) d_law_1074 (c_X11_ring G.2.2.2.1 hF1) rfl ?_
  refine l_aload_n (h := 20) (j := 2) C (by decide) d_law_1077 rfl ?_
  refine l_aload_n (h := 500) (j := 0) C (by decide) d_law_1078 rfl ?_
  refine l_iload_n (j := 3) C d_law_1079 rfl ?_
  refine l_iconst (v := nI 1) C d_law_1080 (by decide) ?_
  refine l_iadd C d_law_1081 ?_
  refine l_sld C G (vp_off (k := 1) (by omega) hL) d_law_1082 ?_
  refine l_aload_n (h := 500) (j := 0) C (by decide) d_law_1083 rfl ?_
  refine l_iload_n (j := 3) C d_law_1084 rfl ?_
  refine l_iconst (v := nI 2) C d_law_1085 (by decide) ?_
  refine l_iadd C d_law_1086 ?_
  refine l_sld C G (vp_off (k := 2) (by omega) hL) d_law_1087 ?_
  refine l_call (rest := [aI r]) C G [aI (xs (nI i + nI 1).toNatClampNeg), aI (xs (nI i + nI 2).toNatClampNeg)] rfl (by decide) rfl rfl k_X12_ring tw_1866 ⟨by decide, by decide⟩ (Nat.le_of_ble_eq_true rfl) d_law_1088 (c_X12_ring G.2.2.2.1 hF2) rfl ?_
  refine l_same (tgt := 1142) C d_law_1091 (by decide) ?_
  exact hend S2 hV
set_option maxRecDepth 20000 in
theorem law_case_24 {p : Program} {l : Launch} {e : Env} {s : State} {m : MethodId} {below : List Frame} {meth : Method} {c : Code} {b L : Nat} {xs : Nat → Int32} {Γ : GG} {kc ks : Nat} (hL : L ≤ 3584) (C : lw_At p s m meth c b L xs) (G : LW s b Γ kc ks) {INV : Mem → Prop} (OK : OKall INV) {i : Nat} (hi : i + 7 ≤ L) {S : Mem} (hS0 : INV S) (hend : ∀ S2 : Mem, INV S2 → LZ p l e s m below meth c b Γ kc ks S2 1142 [(0, aR 500), (1, aR 1), (2, aR 20), (3, aI (nI i))] []) : LZ p l e s m below meth c b Γ kc ks S 1096 [(0, aR 500), (1, aR 1), (2, aR 20), (3, aI (nI i))] [] := by
  refine l_aload_n (h := 1) (j := 1) C (by decide) d_law_1096 rfl ?_
  refine l_aload_n (h := 500) (j := 0) C (by decide) d_law_1097 rfl ?_
  refine l_iload_n (j := 3) C d_law_1098 rfl ?_
  refine l_iconst (v := nI 1) C d_law_1099 (by decide) ?_
  refine l_iadd C d_law_1100 ?_
  refine l_sld C G (vp_off (k := 1) (by omega) hL) d_law_1101 ?_
  obtain ⟨r, S1, S2, hF1, hF2, hV⟩ := OK.2.2.2.2.2.2.2.2.2.2.2.2.2.2.2.2.2.2.2.2.2.2.2.2.1 (xs (nI i + nI 1).toNatClampNeg) S hS0
  refine l_call (rest := []) C G [aI (xs (nI i + nI 1).toNatClampNeg)] rfl (by decide) rfl rfl k_X11_total tw_1179 ⟨by decide, by decide⟩ (Nat.le_of_ble_eq_true rfl) d_law_1102 (c_X11_total G.2.2.2.1 hF1) rfl ?_
  refine l_aload_n (h := 20) (j := 2) C (by decide) d_law_1105 rfl ?_
  refine l_aload_n (h := 500) (j := 0) C (by decide) d_law_1106 rfl ?_
  refine l_iload_n (j := 3) C d_law_1107 rfl ?_
  refine l_iconst (v := nI 1) C d_law_1108 (by decide) ?_
  refine l_iadd C d_law_1109 ?_
  refine l_sld C G (vp_off (k := 1) (by omega) hL) d_law_1110 ?_
  refine l_call (rest := [aI r]) C G [aI (xs (nI i + nI 1).toNatClampNeg)] rfl (by decide) rfl rfl k_X12_total tw_1871 ⟨by decide, by decide⟩ (Nat.le_of_ble_eq_true rfl) d_law_1111 (c_X12_total G.2.2.2.1 hF2) rfl ?_
  refine l_same (tgt := 1142) C d_law_1114 (by decide) ?_
  exact hend S2 hV
set_option maxRecDepth 20000 in
theorem law_case_25 {p : Program} {l : Launch} {e : Env} {s : State} {m : MethodId} {below : List Frame} {meth : Method} {c : Code} {b L : Nat} {xs : Nat → Int32} {Γ : GG} {kc ks : Nat} (hL : L ≤ 3584) (C : lw_At p s m meth c b L xs) (G : LW s b Γ kc ks) {INV : Mem → Prop} (OK : OKall INV) {i : Nat} (hi : i + 7 ≤ L) {S : Mem} (hS0 : INV S) (hend : ∀ S2 : Mem, INV S2 → LZ p l e s m below meth c b Γ kc ks S2 1142 [(0, aR 500), (1, aR 1), (2, aR 20), (3, aI (nI i))] []) : LZ p l e s m below meth c b Γ kc ks S 1119 [(0, aR 500), (1, aR 1), (2, aR 20), (3, aI (nI i))] [] := by
  refine l_aload_n (h := 1) (j := 1) C (by decide) d_law_1119 rfl ?_
  refine l_aload_n (h := 500) (j := 0) C (by decide) d_law_1120 rfl ?_
  refine l_iload_n (j := 3) C d_law_1121 rfl ?_
  refine l_iconst (v := nI 1) C d_law_1122 (by decide) ?_
  refine l_iadd C d_law_1123 ?_
  refine l_sld C G (vp_off (k := 1) (by omega) hL) d_law_1124 ?_
  obtain ⟨r, S1, S2, hF1, hF2, hV⟩ := OK.2.2.2.2.2.2.2.2.2.2.2.2.2.2.2.2.2.2.2.2.2.2.2.2.2 (xs (nI i + nI 1).toNatClampNeg) S hS0
  refine l_call (rest := []) C G [aI (xs (nI i + nI 1).toNatClampNeg)] rfl (by decide) rfl rfl k_X11_count tw_1189 ⟨by decide, by decide⟩ (Nat.le_of_ble_eq_true rfl) d_law_1125 (c_X11_count G.2.2.2.1 hF1) rfl ?_
  refine l_aload_n (h := 20) (j := 2) C (by decide) d_law_1128 rfl ?_
  refine l_aload_n (h := 500) (j := 0) C (by decide) d_law_1129 rfl ?_
  refine l_iload_n (j := 3) C d_law_1130 rfl ?_
  refine l_iconst (v := nI 1) C d_law_1131 (by decide) ?_
  refine l_iadd C d_law_1132 ?_
  refine l_sld C G (vp_off (k := 1) (by omega) hL) d_law_1133 ?_
  refine l_call (rest := [aI r]) C G [aI (xs (nI i + nI 1).toNatClampNeg)] rfl (by decide) rfl rfl k_X12_count tw_1875 ⟨by decide, by decide⟩ (Nat.le_of_ble_eq_true rfl) d_law_1134 (c_X12_count G.2.2.2.1 hF2) rfl ?_
  refine l_same (tgt := 1142) C d_law_1137 (by decide) ?_
  exact hend S2 hV
set_option maxRecDepth 20000 in
theorem law_loop {p : Program} {l : Launch} {e : Env} {s : State} {m : MethodId} {below : List Frame} {meth : Method} {c : Code} {b L : Nat} {xs : Nat → Int32} {Γ : GG} {kc ks : Nat} (hL : L ≤ 3584) (C : lw_At p s m meth c b L xs) (G : LW s b Γ kc ks) {INV : Mem → Prop} (OK : OKall INV) : ∀ (n i : Nat) (S : Mem), L ≤ i + n → i ≤ L + 7 → INV S → LZ p l e s m below meth c b Γ kc ks S 18 [(0, aR 500), (1, aR 1), (2, aR 20), (3, aI (nI i))] [] := by
  have hout : ∀ (i : Nat) (S : Mem), LZ p l e s m below meth c b Γ kc ks S 1148 [(0, aR 500), (1, aR 1), (2, aR 20), (3, aI (nI i))] [] := fun i S => by
    refine l_iconst (v := 1) C d_law_1148 (by decide) ?_
    exact l_one C G d_law_1149
  intro n
  induction n with
  | zero =>
    intro i S h1 h2 hS0
    refine l_iload_n (j := 3) C d_law_18 rfl ?_
    refine l_aload_n (h := 500) (j := 0) C (by decide) d_law_19 rfl ?_
    refine l_slen C G d_law_20 ?_
    refine l_bipush (v := nI 7) C d_law_21 (by decide) ?_
    refine l_isub C d_law_23 ?_
    refine l_icmp_gt (tgt := 1148) C d_law_24 (by decide) (fun _ => hout i S) (fun c0 => absurd ?_ c0)
    exact law_gt (by omega) (by omega) hL
  | succ n ih =>
    intro i S h1 h2 hS0
    refine l_iload_n (j := 3) C d_law_18 rfl ?_
    refine l_aload_n (h := 500) (j := 0) C (by decide) d_law_19 rfl ?_
    refine l_slen C G d_law_20 ?_
    refine l_bipush (v := nI 7) C d_law_21 (by decide) ?_
    refine l_isub C d_law_23 ?_
    refine l_icmp_gt (tgt := 1148) C d_law_24 (by decide) (fun _ => hout i S) (fun c0 => ?_)
    have hi : i + 7 ≤ L := law_le c0 (by omega) hL
    have hend : ∀ S2 : Mem, INV S2 → LZ p l e s m below meth c b Γ kc ks S2 1142 [(0, aR 500), (1, aR 1), (2, aR 20), (3, aI (nI i))] [] := fun S2 hV => by
      refine l_iinc (j := 3) (v := nI (i + 7)) (lv' := [(3, aI (nI (i + 7))), (0, aR 500), (1, aR 1), (2, aR 20)]) C d_law_1142 rfl (nI_add i 7) (by decide) rfl ?_
      refine l_goto (tgt := 18) C d_law_1145 (by decide) ?_
      exact l_sub [1, 2, 3, 0] rfl (ih (i + 7) S2 (by omega) (by omega) hV)
    refine l_aload_n (h := 500) (j := 0) C (by decide) d_law_27 rfl ?_
    refine l_iload_n (j := 3) C d_law_28 rfl ?_
    refine l_sld C G (vp_in_nI (by omega) (by omega)) d_law_29 ?_
    refine l_bipush (v := 31) C d_law_30 (by decide) ?_
    refine l_iand C d_law_32 ?_
    generalize xs (nI i).toNatClampNeg &&& 31 = w
    by_cases c0 : w = 0
    · exact l_tin (tgt := 152) C d_law_33 (by rw [c0]; decide) (by rw [c0]; decide) (by rw [c0]; rfl) (by decide) (law_case_0 hL C G OK hi hS0 hend)
    have e0 := tn (n := 0) c0 (by decide)
    by_cases c1 : w = 1
    · exact l_tin (tgt := 215) C d_law_33 (by rw [c1]; decide) (by rw [c1]; decide) (by rw [c1]; rfl) (by decide) (law_case_1 hL C G OK hi hS0 hend)
    have e1 := tn (n := 1) c1 (by decide)
    by_cases c2 : w = 2
    · exact l_tin (tgt := 238) C d_law_33 (by rw [c2]; decide) (by rw [c2]; decide) (by rw [c2]; rfl) (by decide) (law_case_2 hL C G OK hi hS0 hend)
    have e2 := tn (n := 2) c2 (by decide)
    by_cases c3 : w = 3
    · exact l_tin (tgt := 251) C d_law_33 (by rw [c3]; decide) (by rw [c3]; decide) (by rw [c3]; rfl) (by decide) (law_case_3 hL C G OK hi hS0 hend)
    have e3 := tn (n := 3) c3 (by decide)
    by_cases c4 : w = 4
    · exact l_tin (tgt := 274) C d_law_33 (by rw [c4]; decide) (by rw [c4]; decide) (by rw [c4]; rfl) (by decide) (law_case_4 hL C G OK hi hS0 hend)
    have e4 := tn (n := 4) c4 (by decide)
    by_cases c5 : w = 5
    · exact l_tin (tgt := 297) C d_law_33 (by rw [c5]; decide) (by rw [c5]; decide) (by rw [c5]; rfl) (by decide) (law_case_5 hL C G OK hi hS0 hend)
    have e5 := tn (n := 5) c5 (by decide)
    by_cases c6 : w = 6
    · exact l_tin (tgt := 330) C d_law_33 (by rw [c6]; decide) (by rw [c6]; decide) (by rw [c6]; rfl) (by decide) (law_case_6 hL C G OK hi hS0 hend)
    have e6 := tn (n := 6) c6 (by decide)
    by_cases c7 : w = 7
    · exact l_tin (tgt := 363) C d_law_33 (by rw [c7]; decide) (by rw [c7]; decide) (by rw [c7]; rfl) (by decide) (law_case_7 hL C G OK hi hS0 hend)
    have e7 := tn (n := 7) c7 (by decide)
    by_cases c8 : w = 8
    · exact l_tin (tgt := 396) C d_law_33 (by rw [c8]; decide) (by rw [c8]; decide) (by rw [c8]; rfl) (by decide) (law_case_8 hL C G OK hi hS0 hend)
    have e8 := tn (n := 8) c8 (by decide)
    by_cases c9 : w = 9
    · exact l_tin (tgt := 429) C d_law_33 (by rw [c9]; decide) (by rw [c9]; decide) (by rw [c9]; rfl) (by decide) (law_case_9 hL C G OK hi hS0 hend)
    have e9 := tn (n := 9) c9 (by decide)
    by_cases c10 : w = 10
    · exact l_tin (tgt := 504) C d_law_33 (by rw [c10]; decide) (by rw [c10]; decide) (by rw [c10]; rfl) (by decide) (law_case_10 hL C G OK hi hS0 hend)
    have e10 := tn (n := 10) c10 (by decide)
    by_cases c11 : w = 11
    · exact l_tin (tgt := 537) C d_law_33 (by rw [c11]; decide) (by rw [c11]; decide) (by rw [c11]; rfl) (by decide) (law_case_11 hL C G OK hi hS0 hend)
    have e11 := tn (n := 11) c11 (by decide)
    by_cases c12 : w = 12
    · exact l_tin (tgt := 560) C d_law_33 (by rw [c12]; decide) (by rw [c12]; decide) (by rw [c12]; rfl) (by decide) (law_case_12 hL C G OK hi hS0 hend)
    have e12 := tn (n := 12) c12 (by decide)
    by_cases c13 : w = 13
    · exact l_tin (tgt := 583) C d_law_33 (by rw [c13]; decide) (by rw [c13]; decide) (by rw [c13]; rfl) (by decide) (law_case_13 hL C G OK hi hS0 hend)
    have e13 := tn (n := 13) c13 (by decide)
    by_cases c14 : w = 14
    · exact l_tin (tgt := 646) C d_law_33 (by rw [c14]; decide) (by rw [c14]; decide) (by rw [c14]; rfl) (by decide) (law_case_14 hL C G OK hi hS0 hend)
    have e14 := tn (n := 14) c14 (by decide)
    by_cases c15 : w = 15
    · exact l_tin (tgt := 699) C d_law_33 (by rw [c15]; decide) (by rw [c15]; decide) (by rw [c15]; rfl) (by decide) (law_case_15 hL C G OK hi hS0 hend)
    have e15 := tn (n := 15) c15 (by decide)
    by_cases c16 : w = 16
    · exact l_tin (tgt := 722) C d_law_33 (by rw [c16]; decide) (by rw [c16]; decide) (by rw [c16]; rfl) (by decide) (law_case_16 hL C G OK hi hS0 hend)
    have e16 := tn (n := 16) c16 (by decide)
    by_cases c17 : w = 17
    · exact l_tin (tgt := 755) C d_law_33 (by rw [c17]; decide) (by rw [c17]; decide) (by rw [c17]; rfl) (by decide) (law_case_17 hL C G OK hi hS0 hend)
    have e17 := tn (n := 17) c17 (by decide)
    by_cases c18 : w = 18
    · exact l_tin (tgt := 818) C d_law_33 (by rw [c18]; decide) (by rw [c18]; decide) (by rw [c18]; rfl) (by decide) (law_case_18 hL C G OK hi hS0 hend)
    have e18 := tn (n := 18) c18 (by decide)
    by_cases c19 : w = 19
    · exact l_tin (tgt := 871) C d_law_33 (by rw [c19]; decide) (by rw [c19]; decide) (by rw [c19]; rfl) (by decide) (law_case_19 hL C G OK hi hS0 hend)
    have e19 := tn (n := 19) c19 (by decide)
    by_cases c20 : w = 20
    · exact l_tin (tgt := 914) C d_law_33 (by rw [c20]; decide) (by rw [c20]; decide) (by rw [c20]; rfl) (by decide) (law_case_20 hL C G OK hi hS0 hend)
    have e20 := tn (n := 20) c20 (by decide)
    by_cases c21 : w = 21
    · exact l_tin (tgt := 957) C d_law_33 (by rw [c21]; decide) (by rw [c21]; decide) (by rw [c21]; rfl) (by decide) (law_case_21 hL C G OK hi hS0 hend)
    have e21 := tn (n := 21) c21 (by decide)
    by_cases c22 : w = 22
    · exact l_tin (tgt := 1010) C d_law_33 (by rw [c22]; decide) (by rw [c22]; decide) (by rw [c22]; rfl) (by decide) (law_case_22 hL C G OK hi hS0 hend)
    have e22 := tn (n := 22) c22 (by decide)
    by_cases c23 : w = 23
    · exact l_tin (tgt := 1063) C d_law_33 (by rw [c23]; decide) (by rw [c23]; decide) (by rw [c23]; rfl) (by decide) (law_case_23 hL C G OK hi hS0 hend)
    have e23 := tn (n := 23) c23 (by decide)
    by_cases c24 : w = 24
    · exact l_tin (tgt := 1096) C d_law_33 (by rw [c24]; decide) (by rw [c24]; decide) (by rw [c24]; rfl) (by decide) (law_case_24 hL C G OK hi hS0 hend)
    have e24 := tn (n := 24) c24 (by decide)
    by_cases c25 : w = 25
    · exact l_tin (tgt := 1119) C d_law_33 (by rw [c25]; decide) (by rw [c25]; decide) (by rw [c25]; rfl) (by decide) (law_case_25 hL C G OK hi hS0 hend)
    have e25 := tn (n := 25) c25 (by decide)
    exact l_tout (tgt := 1142) C d_law_33 (by omega) (by decide) (hend S hS0)
