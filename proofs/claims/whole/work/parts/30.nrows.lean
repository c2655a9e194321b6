/-! constructors: a world of cells that grows, told as a list; an instruction a row -/
abbrev wtyc (cy : Nat → ClassId) : List (ClassId × FieldType) := [(cy 0, .byte), (cy 1, .int), (cy 2, .long), (cy 3, .boolean), (cy 4, .object "TickPools$Pool"), (cy 5, .object "TickPools$Stake"), (cy 6, .object "TickPools$Step")]
def NWs (U : State) : Prop := (∀ w ∈ nestw, va_Nw w U) ∧ va_AO "TickPools$Pool" U ∧ va_AO "TickPools$Stake" U ∧ va_AO "TickPools$Step" U
theorem nest_warm {s U : State} (hW : s.WarmedH U.vm) (h : ∀ w ∈ nestw, va_Nw w s) : ∀ w ∈ nestw, va_Nw w U := by
  have h2 := h
  unfold nestw at h2 ⊢
  simp only [List.forall_mem_cons] at h2 ⊢
  obtain ⟨a1, a2, a3, a4, a5, a6, a7, a8, a9, -⟩ := h2
  exact ⟨a1.warmM hW, a2.warmM hW, a3.warmM hW, a4.warmM hW, a5.warmM hW, a6.warmM hW, a7.warmM hW, a8.warmM hW, a9.warmM hW, fun _ h => absurd h List.not_mem_nil⟩
theorem nest_same {u U : State} (hv : U.vm = u.vm) (h : ∀ w ∈ nestw, va_Nw w u) : ∀ w ∈ nestw, va_Nw w U := by
  have h2 := h
  unfold nestw at h2 ⊢
  simp only [List.forall_mem_cons] at h2 ⊢
  obtain ⟨a1, a2, a3, a4, a5, a6, a7, a8, a9, -⟩ := h2
  exact ⟨a1.same rfl hv.symm, a2.same rfl hv.symm, a3.same rfl hv.symm, a4.same rfl hv.symm, a5.same rfl hv.symm, a6.same rfl hv.symm, a7.same rfl hv.symm, a8.same rfl hv.symm, a9.same rfl hv.symm, fun _ h => absurd h List.not_mem_nil⟩
theorem NWs.warm {s U : State} (hW : s.WarmedH U.vm) (h : NWs s) : NWs U := ⟨nest_warm hW h.1, h.2.1.moved hW.alike, h.2.2.1.moved hW.alike, h.2.2.2.moved hW.alike⟩
theorem NWs.same {u U : State} (hv : U.vm = u.vm) (h : NWs u) : NWs U := ⟨nest_same hv h.1, h.2.1.moved (by rw [hv]; exact Vm.Alike.refl _), h.2.2.1.moved (by rw [hv]; exact Vm.Alike.refl _), h.2.2.2.moved (by rw [hv]; exact Vm.Alike.refl _)⟩
def NPre (D : va_G) (cy : Nat → ClassId) (ws : va_W) (sz : Nat) (U : State) : Prop := U.heap.size = sz ∧ va_P D vwCl ws U.heap ∧ va_D (fun _ => True) ws ∧ va_K D vwCl (wtyc cy) U ∧ NWs U
def NPost (D : va_G) (ws : va_W) (sz : Nat) (v : Option Value) (post : (Nat → Nat) → va_W) : Array Value → State → Outcome → State → Prop := fun _ st oc t => (oc = .returned v ∧ ∃ u : Nat → Nat, va_P D vwCl (post u) t.heap ∧ va_D (va_A ws sz) (post u)) ∧ va_F (va_A ws sz) st t
/-- a constructor's contract: from the cells ws it comes to the cells 'post u', u: where they lie -/
def NM (l : Launch) (D : va_G) (cy : Nat → ClassId) (y : MethodName) (b : ByteArray) (nl : Nat) (rt : Option FieldType) (fr lo mc ms : Nat) (av : List Value) (ws : va_W) (v : Option Value) (post : (Nat → Nat) → va_W) : Prop :=
  ∀ sz, Met l y (.code y b nl rt :: lw_gt) ({ frames := fr, cells := mc, slots := ms, locals := lo }) (va_Pc av (NPre D cy ws sz)) (NPost D ws sz v post) mc ms (va_A ws sz)
def NX (X : MC) (D : va_G) (cy : Nat → ClassId) (cc : ByteArray) (nL : Nat) (own : String) (fr lo mc ms : Nat) : Prop :=
  X.1.tables.exec = Jvm.exec ∧ X.2.2.2.2.2.2.2.2.2.1.code = cc ∧ X.2.2.2.2.2.2.2.2.2.1.maxLocals = nL ∧ X.2.2.2.2.1.vm.findClass own = some X.2.2.2.2.2.1.cls ∧ (∀ w ∈ lw_gt, w.before X.2.2.2.2.2.2.1 X.2.2.2.2.1 = true) ∧ va_K D vwCl (wtyc cy) X.2.2.2.2.1 ∧ NWs X.2.2.2.2.1 ∧ X.2.2.2.2.2.2.2.2.1.locks = false ∧ fr ≤ X.2.2.2.1.frames ∧ lo ≤ X.2.2.2.1.locals ∧ mc ≤ X.2.2.2.1.cells ∧ ms ≤ X.2.2.2.1.slots ∧ (∀ q, X.2.2.2.2.1.heap.size ≤ q → X.2.2.2.2.2.2.2.2.2.2.1 q)
def NZ (X : MC) (D : va_G) (nL : Nat) (Q : State → Prop) (kc ks : Nat) (ws : va_W) (pc : Nat) (lv : List (Nat × Value)) (st : List Value) : Prop :=
  ∀ (H : Heap) (locs : List Loc) (ls : Array Slot), va_P D vwCl ws H → va_D X.2.2.2.2.2.2.2.2.2.2.1 ws → va_S X.2.2.2.2.2.2.2.2.2.2.1 X.2.2.2.2.1.heap H locs → lv_has ls nL lv →
    W X.1 X.2.1 X.2.2.1 X.2.2.2.1 X.2.2.2.2.1 X.2.2.2.2.2.1 X.2.2.2.2.2.2.1 X.2.2.2.2.2.2.2.1 X.2.2.2.2.2.2.2.2.1 X.2.2.2.2.2.2.2.2.2.1 H locs kc ks Q (F0 X.2.2.2.2.2.1 pc ls st)
def NQ (X : MC) (D : va_G) (ws : va_W) (sz : Nat) (v : Option Value) (post : (Nat → Nat) → va_W) (mc ms : Nat) : State → Prop := MQ X.2.2.2.2.2.2.2.1 (NPost D ws sz v post) X.2.2.2.2.2.2.1 X.2.2.2.2.1 mc ms (va_A ws sz)
section NROWS
variable {X : MC} {D : va_G} {cy : Nat → ClassId} {cc : ByteArray} {nL : Nat} {own : String} {fr lo mc ms : Nat} {Q : State → Prop} {kc ks : Nat} {ws : va_W} {pc : Nat} {lv : List (Nat × Value)} {rest : List Value}
theorem n_eq {ws' : va_W} (h : ws = ws') {st : List Value} (k : NZ X D nL Q kc ks ws' pc lv st) : NZ X D nL Q kc ks ws pc lv st := by
  subst h
  exact k
theorem n_wide {kc' ks' : Nat} (h1 : kc = kc') (h2 : ks = ks') {st : List Value} (k : NZ X D nL Q kc' ks' ws pc lv st) : NZ X D nL Q kc ks ws pc lv st := by
  subst h1; subst h2
  exact k
theorem n_aload_n (C : NX X D cy cc nL own fr lo mc ms) {j : Nat} {i : Fin 4} {a : Nat} (hd : decode cc pc = .ok (.aload_n i, 1)) (hj : lv[j]? = some ((i : Nat), .ref a)) (k : NZ X D nL Q kc ks ws (pc + 1) lv (.ref a :: rest)) : NZ X D nL Q kc ks ws pc lv rest := fun H locs ls hP hD hS hl => lv_aload_n C.1 C.2.1 hd rfl (lv_at hl j hj) (k H locs ls hP hD hS hl)
theorem n_aload (C : NX X D cy cc nL own fr lo mc ms) {j i : Nat} {a : Nat} (hd : decode cc pc = .ok (.aload i, 2)) (hj : lv[j]? = some (i, .ref a)) (k : NZ X D nL Q kc ks ws (pc + 2) lv (.ref a :: rest)) : NZ X D nL Q kc ks ws pc lv rest := fun H locs ls hP hD hS hl => lv_aload C.1 C.2.1 hd (lv_at hl j hj) (k H locs ls hP hD hS hl)
theorem n_iload_n (C : NX X D cy cc nL own fr lo mc ms) {j : Nat} {i : Fin 4} {x : Int32} (hd : decode cc pc = .ok (.iload_n i, 1)) (hj : lv[j]? = some ((i : Nat), .int x)) (k : NZ X D nL Q kc ks ws (pc + 1) lv (.int x :: rest)) : NZ X D nL Q kc ks ws pc lv rest := fun H locs ls hP hD hS hl => lv_iload_n C.1 C.2.1 hd rfl (lv_at hl j hj) (k H locs ls hP hD hS hl)
theorem n_iload (C : NX X D cy cc nL own fr lo mc ms) {j i : Nat} {x : Int32} (hd : decode cc pc = .ok (.iload i, 2)) (hj : lv[j]? = some (i, .int x)) (k : NZ X D nL Q kc ks ws (pc + 2) lv (.int x :: rest)) : NZ X D nL Q kc ks ws pc lv rest := fun H locs ls hP hD hS hl => lv_iload C.1 C.2.1 hd (lv_at hl j hj) (k H locs ls hP hD hS hl)
theorem n_lload (C : NX X D cy cc nL own fr lo mc ms) {j i : Nat} {x : Int64} (hd : decode cc pc = .ok (.lload i, 2)) (hj : lv[j]? = some (i, .long x)) (k : NZ X D nL Q kc ks ws (pc + 2) lv (.long x :: rest)) : NZ X D nL Q kc ks ws pc lv rest := fun H locs ls hP hD hS hl => lv_lload C.1 C.2.1 hd (lv_at hl j hj) (k H locs ls hP hD hS hl)
theorem n_iconst (C : NX X D cy cc nL own fr lo mc ms) {n : Int} {v : Int32} (hd : decode cc pc = .ok (.iconst n, 1)) (hv : Int32.ofInt n = v) (k : NZ X D nL Q kc ks ws (pc + 1) lv (.int v :: rest)) : NZ X D nL Q kc ks ws pc lv rest := fun H locs ls hP hD hS hl => lv_iconst C.1 C.2.1 hd hv (k H locs ls hP hD hS hl)
theorem n_lconst (C : NX X D cy cc nL own fr lo mc ms) {n : Fin 2} {v : Int64} (hd : decode cc pc = .ok (.lconst n, 1)) (hv : Int64.ofNat (n : Nat) = v) (k : NZ X D nL Q kc ks ws (pc + 1) lv (.long v :: rest)) : NZ X D nL Q kc ks ws pc lv rest := fun H locs ls hP hD hS hl => lv_lconst C.1 C.2.1 hd hv (k H locs ls hP hD hS hl)
theorem n_bipush (C : NX X D cy cc nL own fr lo mc ms) {n : Int} {v : Int32} (hd : decode cc pc = .ok (.bipush n, 2)) (hv : (Int8.ofInt n).toInt32 = v) (k : NZ X D nL Q kc ks ws (pc + 2) lv (.int v :: rest)) : NZ X D nL Q kc ks ws pc lv rest := fun H locs ls hP hD hS hl => lv_bipush C.1 C.2.1 hd hv (k H locs ls hP hD hS hl)
theorem n_sipush (C : NX X D cy cc nL own fr lo mc ms) {n : Int} {v : Int32} (hd : decode cc pc = .ok (.sipush n, 3)) (hv : (Int16.ofInt n).toInt32 = v) (k : NZ X D nL Q kc ks ws (pc + 3) lv (.int v :: rest)) : NZ X D nL Q kc ks ws pc lv rest := fun H locs ls hP hD hS hl => lv_sipush C.1 C.2.1 hd hv (k H locs ls hP hD hS hl)
theorem n_ldc2 (C : NX X D cy cc nL own fr lo mc ms) {idx : Nat} {v : Int64} (hw : Cond.constantLong own idx v ∈ lw_gt) (hd : decode cc pc = .ok (.ldc2_w idx, 3)) (k : NZ X D nL Q kc ks ws (pc + 3) lv (.long v :: rest)) : NZ X D nL Q kc ks ws pc lv rest := fun H locs ls hP hD hS hl => lv_ldc2 C.1 C.2.1 C.2.2.2.1 (C.2.2.2.2.1 _ hw) hd (k H locs ls hP hD hS hl)
theorem n_dup (C : NX X D cy cc nL own fr lo mc ms) {v : Value} (hv : v.category = 1) (hd : decode cc pc = .ok (.dup, 1)) (k : NZ X D nL Q kc ks ws (pc + 1) lv (v :: v :: rest)) : NZ X D nL Q kc ks ws pc lv (v :: rest) := fun H locs ls hP hD hS hl => lv_dup C.1 C.2.1 hd hv (k H locs ls hP hD hS hl)
theorem n_i2l (C : NX X D cy cc nL own fr lo mc ms) {x : Int32} (hd : decode cc pc = .ok (.i2l, 1)) (k : NZ X D nL Q kc ks ws (pc + 1) lv (.long x.toInt64 :: rest)) : NZ X D nL Q kc ks ws pc lv (.int x :: rest) := fun H locs ls hP hD hS hl => lv_i2l C.1 C.2.1 hd rfl (k H locs ls hP hD hS hl)
theorem n_lmul (C : NX X D cy cc nL own fr lo mc ms) {x y : Int64} (hd : decode cc pc = .ok (.lmul, 1)) (k : NZ X D nL Q kc ks ws (pc + 1) lv (.long (x * y) :: rest)) : NZ X D nL Q kc ks ws pc lv (.long y :: .long x :: rest) := fun H locs ls hP hD hS hl => lv_lmul C.1 C.2.1 hd (k H locs ls hP hD hS hl)
theorem n_ladd (C : NX X D cy cc nL own fr lo mc ms) {x y : Int64} (hd : decode cc pc = .ok (.ladd, 1)) (k : NZ X D nL Q kc ks ws (pc + 1) lv (.long (x + y) :: rest)) : NZ X D nL Q kc ks ws pc lv (.long y :: .long x :: rest) := fun H locs ls hP hD hS hl => lv_ladd C.1 C.2.1 hd (k H locs ls hP hD hS hl)
theorem n_lsub (C : NX X D cy cc nL own fr lo mc ms) {x y : Int64} (hd : decode cc pc = .ok (.lsub, 1)) (k : NZ X D nL Q kc ks ws (pc + 1) lv (.long (x - y) :: rest)) : NZ X D nL Q kc ks ws pc lv (.long y :: .long x :: rest) := fun H locs ls hP hD hS hl => lv_lsub C.1 C.2.1 hd (k H locs ls hP hD hS hl)
theorem n_istore_n (C : NX X D cy cc nL own fr lo mc ms) {i : Fin 4} {x : Int32} {lv' : List (Nat × Value)} (hd : decode cc pc = .ok (.istore_n i, 1)) (hn : (i : Nat) < nL) (hl9 : ((i : Nat), Value.int x) :: lv.filter (fun q => !(q.1 == (i : Nat)) && !(q.1 + 1 == (i : Nat) && q.2.category == 2)) = lv') (k : NZ X D nL Q kc ks ws (pc + 1) lv' rest) : NZ X D nL Q kc ks ws pc lv (.int x :: rest) := fun H locs ls hP hD hS hl => lv_istore_n C.1 C.2.1 hd rfl hl hn hl9 (fun ls' hl' => k H locs ls' hP hD hS hl')
theorem n_istore (C : NX X D cy cc nL own fr lo mc ms) {i : Nat} {x : Int32} {lv' : List (Nat × Value)} (hd : decode cc pc = .ok (.istore i, 2)) (hn : i < nL) (hl9 : (i, Value.int x) :: lv.filter (fun q => !(q.1 == i) && !(q.1 + 1 == i && q.2.category == 2)) = lv') (k : NZ X D nL Q kc ks ws (pc + 2) lv' rest) : NZ X D nL Q kc ks ws pc lv (.int x :: rest) := fun H locs ls hP hD hS hl => lv_istore C.1 C.2.1 hd hl hn hl9 (fun ls' hl' => k H locs ls' hP hD hS hl')
theorem n_astore (C : NX X D cy cc nL own fr lo mc ms) {i : Nat} {x : Nat} {lv' : List (Nat × Value)} (hd : decode cc pc = .ok (.astore i, 2)) (hn : i < nL) (hl9 : (i, Value.ref x) :: lv.filter (fun q => !(q.1 == i) && !(q.1 + 1 == i && q.2.category == 2)) = lv') (k : NZ X D nL Q kc ks ws (pc + 2) lv' rest) : NZ X D nL Q kc ks ws pc lv (.ref x :: rest) := fun H locs ls hP hD hS hl => lv_astore C.1 C.2.1 hd hl hn hl9 (fun ls' hl' => k H locs ls' hP hD hS hl')
theorem n_lstore (C : NX X D cy cc nL own fr lo mc ms) {i : Nat} {x : Int64} {lv' : List (Nat × Value)} (hd : decode cc pc = .ok (.lstore i, 2)) (hn : i + 1 < nL) (hl9 : (i, Value.long x) :: lv.filter (fun q => !(q.1 == i) && (!(q.1 == i + 1) && !(q.1 + 1 == i && q.2.category == 2))) = lv') (k : NZ X D nL Q kc ks ws (pc + 2) lv' rest) : NZ X D nL Q kc ks ws pc lv (.long x :: rest) := fun H locs ls hP hD hS hl => lv_lstore C.1 C.2.1 hd hl hn hl9 (fun ls' hl' => k H locs ls' hP hD hS hl')
theorem n_iinc (C : NX X D cy cc nL own fr lo mc ms) {i j : Nat} {n : Int} {x v : Int32} {lv' : List (Nat × Value)} (hd : decode cc pc = .ok (.iinc i n, 3)) (hj : lv[j]? = some (i, .int x)) (hv : x + Int32.ofInt n = v) (hn : i < nL) (hl9 : (i, Value.int v) :: lv.filter (fun q => !(q.1 == i) && !(q.1 + 1 == i && q.2.category == 2)) = lv') (k : NZ X D nL Q kc ks ws (pc + 3) lv' rest) : NZ X D nL Q kc ks ws pc lv rest := fun H locs ls hP hD hS hl => lv_iinc C.1 C.2.1 hd hl hj hv hn hl9 (fun ls' hl' => k H locs ls' hP hD hS hl')
theorem n_goto (C : NX X D cy cc nL own fr lo mc ms) {off : Int} {tgt : Nat} (hd : decode cc pc = .ok (.goto off, 3)) (ht : (pc : Int) + off = (tgt : Int)) (k : NZ X D nL Q kc ks ws tgt lv rest) : NZ X D nL Q kc ks ws pc lv rest := fun H locs ls hP hD hS hl => lv_goto C.1 C.2.1 hd ht (k H locs ls hP hD hS hl)
theorem n_ge_no (C : NX X D cy cc nL own fr lo mc ms) {x y : Int32} {off : Int} {tgt : Nat} (hd : decode cc pc = .ok (.if_icmp .ge off, 3)) (ht : (pc : Int) + off = (tgt : Int)) (hc : ¬ y ≤ x) (k : NZ X D nL Q kc ks ws (pc + 3) lv rest) : NZ X D nL Q kc ks ws pc lv (.int y :: .int x :: rest) := fun H locs ls hP hD hS hl => lv_icmp_ge C.1 C.2.1 hd ht (fun c => absurd c hc) (fun _ => k H locs ls hP hD hS hl)
theorem n_ge_yes (C : NX X D cy cc nL own fr lo mc ms) {x y : Int32} {off : Int} {tgt : Nat} (hd : decode cc pc = .ok (.if_icmp .ge off, 3)) (ht : (pc : Int) + off = (tgt : Int)) (hc : y ≤ x) (k : NZ X D nL Q kc ks ws tgt lv rest) : NZ X D nL Q kc ks ws pc lv (.int y :: .int x :: rest) := fun H locs ls hP hD hS hl => lv_icmp_ge C.1 C.2.1 hd ht (fun _ => k H locs ls hP hD hS hl) (fun c => absurd hc c)
theorem n_le (C : NX X D cy cc nL own fr lo mc ms) {x : Int32} {off : Int} {tgt : Nat} (hd : decode cc pc = .ok (.ifCond .le off, 3)) (ht : (pc : Int) + off = (tgt : Int)) (kt : x ≤ 0 → NZ X D nL Q kc ks ws tgt lv rest) (kf : ¬ x ≤ 0 → NZ X D nL Q kc ks ws (pc + 3) lv rest) : NZ X D nL Q kc ks ws pc lv (.int x :: rest) := fun H locs ls hP hD hS hl => lv_if_le C.1 C.2.1 hd ht (fun c => kt c H locs ls hP hD hS hl) (fun c => kf c H locs ls hP hD hS hl)
theorem n_obj (C : NX X D cy cc nL own fr lo mc ms) {idx a : Nat} (hw : Cond.methodLink own idx Lib.objectInit ∈ lw_gt) (hd : decode cc pc = .ok (.invokespecial idx, 3)) (h1 : 1 ≤ fr) (h2 : (rest.map fun v => v.category).sum + 12 ≤ lo) (k : NZ X D nL Q kc ks ws (pc + 3) lv rest) : NZ X D nL Q kc ks ws pc lv (.ref a :: rest) := fun H locs ls hP hD hS hl => W.objInit C.1 C.2.1 C.2.2.2.1 (C.2.2.2.2.1 _ hw) (C.2.2.2.2.1 _ tw_25) (C.2.2.2.2.1 _ tw_26) rfl (by rw [C.2.2.1]; exact hl.1) rfl hd (Nat.le_trans h1 C.2.2.2.2.2.2.2.2.1) (by
  show 2 * 0 + _ + 12 ≤ _
  have := Nat.le_trans h2 C.2.2.2.2.2.2.2.2.2.1
  omega) (k H locs ls hP hD hS hl)
theorem ra_one {s : State} {a b : ClassId} {ty : FieldType} (h1 : va_RA s a ty) (h2 : va_RA s b ty) : a = b := by
  cases ty with
  | object C =>
    obtain ⟨_, _, _, _, _, h1⟩ := h1
    obtain ⟨_, _, _, _, _, h2⟩ := h2
    exact Option.some.inj (h1.symm.trans h2)
  | _ => exact Option.some.inj (Eq.trans (Eq.symm h1) h2)
theorem n_newa (C : NX X D cy cc nL own fr lo mc ms) {atype : ArrayType} {ty : FieldType} (t : Nat) (hw : Cond.arrayClass (newarray.typeOf atype) ∈ lw_gt) (hty : newarray.typeOf atype = ty) (ht : (wtyc cy)[t]? = some (cy t, ty)) {n : Int32} {N : Nat} {a0 : vp_A} (ha : ∀ cA : ClassId, vp_cell cA a0 = arrV cA N (fun _ => defaultValue ty)) (hn : ¬ n < 0) (hN : n.toNatClampNeg = N) (hbytes : N * componentBytes ty ≤ 536870912) (hc : kc + 1 ≤ mc) (hs : ks + N ≤ ms) (hd : decode cc pc = .ok (.newarray atype, 2))
    (k : ∀ q : Nat, NZ X D nL Q (kc + 1) (ks + N) (ws ++ [(q, .inl (cy t, a0))]) (pc + 2) lv (.ref q :: rest)) : NZ X D nL Q kc ks ws pc lv (.int n :: rest) := fun H locs ls hP hD hS hl => va_newa C.1 C.2.1 (C.2.2.2.2.1 _ hw) hty C.2.2.2.2.2.1 hP hD hS C.2.2.2.2.2.2.2.2.2.2.2.2 ha hn hN hbytes (Nat.le_trans hc C.2.2.2.2.2.2.2.2.2.2.1) (Nat.le_trans hs C.2.2.2.2.2.2.2.2.2.2.2.1) hd (fun q cA H1 hK1 hP1 hD1 hS1 => by
  have e : cA = cy t := ra_one (hK1.2 (wtyc cy).length (cA, ty) (by rw [List.getElem?_append_right (Nat.le_refl _), Nat.sub_self]; rfl)).2 (C.2.2.2.2.2.1.2 t _ ht).2
  subst e
  exact k q H1 locs ls hP1 hD1 hS1 hl)
theorem n_newq (C : NX X D cy cc nL own fr lo mc ms) {Cn : String} {idx : Nat} (t : Nat) (hw : Cond.classLink own idx Cn ∈ lw_gt) (ho : va_AO Cn X.2.2.2.2.1) (ht : (wtyc cy)[t]? = some (cy t, .object Cn)) {n : Int32} {N : Nat} (hn : ¬ n < 0) (hN : n.toNatClampNeg = N) (hbytes : N * 4 ≤ 536870912) (hc : kc + 1 ≤ mc) (hs : ks + N ≤ ms) (hd : decode cc pc = .ok (.anewarray idx, 3))
    (k : ∀ q : Nat, NZ X D nL Q (kc + 1) (ks + N) (ws ++ [(q, .inl (cy t, N, .inr (.inr (.inr (.inr (fun _ => none))))))]) (pc + 3) lv (.ref q :: rest)) : NZ X D nL Q kc ks ws pc lv (.int n :: rest) := fun H locs ls hP hD hS hl => va_newq C.1 C.2.1 C.2.2.2.1 (C.2.2.2.2.1 _ hw) ho C.2.2.2.2.2.1 hP hD hS C.2.2.2.2.2.2.2.2.2.2.2.2 hn hN hbytes (Nat.le_trans hc C.2.2.2.2.2.2.2.2.2.2.1) (Nat.le_trans hs C.2.2.2.2.2.2.2.2.2.2.2.1) hd (fun q cA H1 hK1 hP1 hD1 hS1 => by
  have e : cA = cy t := ra_one (hK1.2 (wtyc cy).length (cA, .object Cn) (by rw [List.getElem?_append_right (Nat.le_refl _), Nat.sub_self]; rfl)).2 (C.2.2.2.2.2.1.2 t _ ht).2
  subst e
  exact k q H1 locs ls hP1 hD1 hS1 hl)
theorem n_new (C : NX X D cy cc nL own fr lo mc ms) {Cn : String} {T : u_T} {N ci idx : Nat} (hin : ∀ w ∈ u_ws Cn T N, w ∈ lw_gt) (ty : Nat → FieldType) (hty : ∀ k, k < N → parseFieldDescriptor (T k).2.2.1 = some (ty k)) (w1 : Cond.classLink own idx Cn ∈ lw_gt) (w2 : Cond.instantiable Cn N ∈ lw_gt) (w3 : Cond.initialized Cn ∈ lw_gt) (hc : vwCl[ci]? = some (Cn, T, N)) {fs : List Value} (hfs : ∀ j, j < N → defaultValue (ty j) = vp_V fs j) (h1 : kc + 1 ≤ mc) (h2 : ks + N ≤ ms) (hd : decode cc pc = .ok (.new idx, 3))
    (k : ∀ q : Nat, NZ X D nL Q (kc + 1) (ks + N) (ws ++ [(q, .inr (ci, fs))]) (pc + 3) lv (.ref q :: rest)) : NZ X D nL Q kc ks ws pc lv rest := fun H locs ls hP hD hS hl => va_new C.1 C.2.1 C.2.2.2.2.1 hin ty hty C.2.2.2.1 (C.2.2.2.2.1 _ w1) (C.2.2.2.2.1 _ w2) (C.2.2.2.2.1 _ w3) C.2.2.2.2.2.1 hP hD hS C.2.2.2.2.2.2.2.2.2.2.2.2 hc hfs (Nat.le_trans h1 C.2.2.2.2.2.2.2.2.2.2.1) (Nat.le_trans h2 C.2.2.2.2.2.2.2.2.2.2.2.1) hd (fun q H1 hP1 hD1 hS1 => k q H1 locs ls hP1 hD1 hS1 hl)
theorem n_putF (C : NX X D cy cc nL own fr lo mc ms) (hi : X.2.2.2.2.2.2.2.2.1.name = "<init>") {ref Cn nm ds : String} {T : u_T} {N ci idx a : Nat} {ty0 : Nat → FieldType} {ty : FieldType} {v : Value} {fs : List Value} (q0 k : Nat) (hin : ∀ w ∈ u_ws Cn T N, w ∈ lw_gt) (hty : ∀ k, k < N → parseFieldDescriptor (T k).2.2.1 = some (ty0 k)) (hnm : ∀ a, a < N → ∀ b, b < N → a ≠ b → (T a).2.1 ≠ (T b).2.1) (hT : T k = (own, nm, ds, true)) (hw : Cond.fieldLink own idx own nm ds ∈ lw_gt) (he : ws[q0]? = some (a, .inr (ci, fs))) (hc : vwCl[ci]? = some (Cn, T, N)) (hk : k < N) (hds : parseFieldDescriptor ds = some ty) (hn : narrow ty v = v) (hf : fits ty v = true) (hl9 : k < fs.length) (hd : decode cc pc = .ok (.putfield idx, 3)) (k9 : NZ X D nL Q kc ks (ws.set q0 (a, .inr (ci, fs.set k v))) (pc + 3) lv rest) : NZ X D nL Q kc ks ws pc lv (v :: .ref a :: rest) := fun H locs ls hP hD hS hl => va_putF (D := D) (ref := own) C.1 C.2.1 C.2.2.2.2.1 hin ty0 hty hnm C.2.2.2.1 C.2.2.2.2.2.1 hP hD hS q0 he hc k hk (by rw [hT]; exact C.2.2.2.2.1 _ hw) (by rw [hT]; exact fun _ h9 => h9) (by rw [hT]) hi (by rw [hT]) (by rw [hT]; exact hds) hn hf hl9 hd (fun H1 locs1 hP1 hD1 hS1 => k9 H1 locs1 ls hP1 hD1 hS1 hl)
theorem n_get (C : NX X D cy cc nL own fr lo mc ms) {Cn nm ds : String} {T : u_T} {N ci idx a : Nat} {fi : Bool} {v : Value} {fs : List Value} (q0 k : Nat) (hin : ∀ w ∈ u_ws Cn T N, w ∈ lw_gt) (hT : T k = (own, nm, ds, fi)) (hw : Cond.fieldLink own idx own nm ds ∈ lw_gt) (he : ws[q0]? = some (a, .inr (ci, fs))) (hc : vwCl[ci]? = some (Cn, T, N)) (hk : k < N) (hv : fs[k]? = some v) (hd : decode cc pc = .ok (.getfield idx, 3)) (k9 : NZ X D nL Q kc ks ws (pc + 3) lv (v :: rest)) : NZ X D nL Q kc ks ws pc lv (.ref a :: rest) := fun H locs ls hP hD hS hl => va_get (D := D) (ref := own) C.1 C.2.1 C.2.2.2.2.1 hin C.2.2.2.1 C.2.2.2.2.2.1 hP q0 he hc k hk (by rw [hT]; exact C.2.2.2.2.1 _ hw) (by rw [hT]; exact fun _ h9 => h9) hv hd (k9 H locs ls hP hD hS hl)
theorem n_alen (C : NX X D cy cc nL own fr lo mc ms) {a : Nat} (q0 t : Nat) {cA : ClassId} {x : vp_A} {ty : FieldType} {v : Int32} (ha : ws[q0]? = some (a, .inl (cA, x))) (ht : (wtyc cy)[t]? = some (cA, ty)) (hv : Int32.ofNat x.1 = v) (hd : decode cc pc = .ok (.arraylength, 1)) (k9 : NZ X D nL Q kc ks ws (pc + 1) lv (.int v :: rest)) : NZ X D nL Q kc ks ws pc lv (.ref a :: rest) := fun H locs ls hP hD hS hl => va_alen C.1 C.2.1 C.2.2.2.2.2.1 hP q0 t ha ht hv hd (k9 H locs ls hP hD hS hl)
theorem n_aast (C : NX X D cy cc nL own fr lo mc ms) (q0 t qk ci : Nat) {cA : ClassId} {r : vw_C} {a n v : Nat} {vs : List Value} {f : Nat → Option Nat} (ha : ws[q0]? = some (a, .inl (cA, n, .inr (.inr (.inr (.inr f)))))) (ht : (wtyc cy)[t]? = some (cA, .object r.1)) (hv : ws[qk]? = some (v, .inr (ci, vs))) (hc : vwCl[ci]? = some r) {i : Int32} {j : Nat} (hin : vp_in i n) (hj : i.toNatClampNeg = j) (hd : decode cc pc = .ok (.aastore, 1)) (k9 : NZ X D nL Q kc ks (ws.set q0 (a, .inl (cA, n, .inr (.inr (.inr (.inr (va_up f j (some v)))))))) (pc + 1) lv rest) : NZ X D nL Q kc ks ws pc lv (.ref v :: .int i :: .ref a :: rest) := by
  subst hj
  exact fun H locs ls hP hD hS hl => va_astq C.1 C.2.1 C.2.2.2.2.2.1 hP hD hS q0 t qk ci ha ht hv hc hin hd (fun H1 locs1 hP1 hD1 hS1 => k9 H1 locs1 ls hP1 hD1 hS1 hl)
theorem n_iast (C : NX X D cy cc nL own fr lo mc ms) (q0 : Nat) {a n : Nat} {f : Nat → Int32} (ha : ws[q0]? = some (a, .inl (cy 1, n, .inl f))) {i x : Int32} {j : Nat} (hin : vp_in i n) (hj : i.toNatClampNeg = j) (hd : decode cc pc = .ok (.iastore, 1)) (k9 : NZ X D nL Q kc ks (ws.set q0 (a, .inl (cy 1, n, .inl (upd f j x)))) (pc + 1) lv rest) : NZ X D nL Q kc ks ws pc lv (.int x :: .int i :: .ref a :: rest) := by
  subst hj
  exact fun H locs ls hP hD hS hl => va_iast C.1 C.2.1 C.2.2.2.2.2.1 hP hD hS q0 1 ha rfl hin hd (fun H1 locs1 hP1 hD1 hS1 => k9 H1 locs1 ls hP1 hD1 hS1 hl)
theorem n_iald (C : NX X D cy cc nL own fr lo mc ms) (q0 : Nat) {a n : Nat} {f : Nat → Int32} (ha : ws[q0]? = some (a, .inl (cy 1, n, .inl f))) {i : Int32} (hin : vp_in i n) (hd : decode cc pc = .ok (.iaload, 1)) (k9 : NZ X D nL Q kc ks ws (pc + 1) lv (.int (f i.toNatClampNeg) :: rest)) : NZ X D nL Q kc ks ws pc lv (.int i :: .ref a :: rest) := fun H locs ls hP hD hS hl => va_iald C.1 C.2.1 C.2.2.2.2.2.1 hP q0 1 ha rfl hin hd (k9 H locs ls hP hD hS hl)
theorem n_last (C : NX X D cy cc nL own fr lo mc ms) (q0 : Nat) {a n : Nat} {f : Nat → Int64} (ha : ws[q0]? = some (a, .inl (cy 2, n, .inr (.inl f)))) {i : Int32} {x : Int64} {j : Nat} (hin : vp_in i n) (hj : i.toNatClampNeg = j) (hd : decode cc pc = .ok (.lastore, 1)) (k9 : NZ X D nL Q kc ks (ws.set q0 (a, .inl (cy 2, n, .inr (.inl (vp_updL f j x))))) (pc + 1) lv rest) : NZ X D nL Q kc ks ws pc lv (.long x :: .int i :: .ref a :: rest) := by
  subst hj
  exact fun H locs ls hP hD hS hl => va_last C.1 C.2.1 C.2.2.2.2.2.1 hP hD hS q0 2 ha rfl hin hd (fun H1 locs1 hP1 hD1 hS1 => k9 H1 locs1 ls hP1 hD1 hS1 hl)
theorem n_ret {ws0 : va_W} {sz : Nat} {post : (Nat → Nat) → va_W} (C : NX X D cy cc nL own fr lo mc ms) (hr : X.2.2.2.2.2.2.2.2.1.sig.returnType = none) (hA : X.2.2.2.2.2.2.2.2.2.2.1 = va_A ws0 sz) (u : Nat → Nat) (hu : ws = post u) (hd : decode cc pc = .ok (.return_, 1)) (h1 : kc = mc) (h2 : ks = ms) : NZ X D nL (NQ X D ws0 sz none post mc ms) kc ks ws pc lv [] := by
  subst h1; subst h2; subst hu
  intro H locs ls hP hD hS hl
  rw [hA] at hD hS
  exact W.vret C.1 C.2.1 hr (fun t ht _ => ⟨⟨rfl, u, by rw [ht]; exact hP, hD⟩, hS.F ht⟩) hS.2.2 hd C.2.2.2.2.2.2.2.1
theorem n_lret {ws0 : va_W} {sz : Nat} {post : (Nat → Nat) → va_W} (C : NX X D cy cc nL own fr lo mc ms) (hr : X.2.2.2.2.2.2.2.2.1.sig.returnType = some .long) (hA : X.2.2.2.2.2.2.2.2.2.2.1 = va_A ws0 sz) {x x' : Int64} (hx : x = x') (u : Nat → Nat) (hu : ws = post u) (hd : decode cc pc = .ok (.lreturn, 1)) (h1 : kc = mc) (h2 : ks = ms) : NZ X D nL (NQ X D ws0 sz (some (.long x')) post mc ms) kc ks ws pc lv [.long x] := by
  subst h1; subst h2; subst hu; subst hx
  intro H locs ls hP hD hS hl
  rw [hA] at hD hS
  exact W.lret C.1 C.2.1 hr (fun t ht _ => ⟨⟨rfl, u, by rw [ht]; exact hP, hD⟩, hS.F ht⟩) hS.2.2 hd C.2.2.2.2.2.2.2.1
theorem npre_blind {sz : Nat} {av : List Value} : FrameBlind (va_Pc av (NPre D cy ws sz)) := by
  intro a U g mk q
  obtain ⟨q0, q1, qP, qD, qK, qW⟩ := q
  exact ⟨q0, q1, qP, qD, va_K.moved (u := U) (U := U.calling g mk a) (Vm.Alike.refl U.vm) qK, NWs.same (u := U) (U := U.calling g mk a) rfl qW⟩
/-- the world behind a call: the caller's other cells and what the callee left -/
theorem n_back {wc wr : va_W} {v : Option Value} {post : (Nat → Nat) → va_W} {m1 s1 : Nat} {H : Heap} {locs : List Loc} {ls : Array Slot} {st0 : List Value} {a : Array Value} (C : NX X D cy cc nL own fr lo mc ms) (isC isR : List Nat) (hC : isC.map (fun i => ws[i]?) = wc.map some) (hR : isR.map (fun i => ws[i]?) = wr.map some) (hn : va_nd isR = true) (hdis : ∀ i ∈ isR, i ∉ isC)
    (hr : va_Run X.1 X.2.1 X.2.2.1 X.2.2.2.1 X.2.2.2.2.1 X.2.2.2.2.2.1 X.2.2.2.2.2.2.1 X.2.2.2.2.2.2.2.1 X.2.2.2.2.2.2.2.2.1 X.2.2.2.2.2.2.2.2.2.1 H locs kc ks m1 s1 (F0 X.2.2.2.2.2.1 pc ls st0) rest (NPost D wc H.size v post a) (va_A wc H.size)) (hP : va_P D vwCl ws H) (hD : va_D X.2.2.2.2.2.2.2.2.2.2.1 ws) (hS : va_S X.2.2.2.2.2.2.2.2.2.2.1 X.2.2.2.2.1.heap H locs) (hl : lv_has ls nL lv) (k9 : ∀ u : Nat → Nat, NZ X D nL Q (kc + m1) (ks + s1) (wr ++ post u) (pc + 3) lv (v.toList ++ rest)) : W X.1 X.2.1 X.2.2.1 X.2.2.2.1 X.2.2.2.2.1 X.2.2.2.2.2.1 X.2.2.2.2.2.2.1 X.2.2.2.2.2.2.2.1 X.2.2.2.2.2.2.2.2.1 X.2.2.2.2.2.2.2.2.2.1 H locs kc ks Q (F0 X.2.2.2.2.2.1 pc ls st0) := by
  have hF := va_free hD hS C.2.2.2.2.2.2.2.2.2.2.2.2 isC hC
  intro T hT X0
  obtain ⟨w, st₀, t, T', L, h0, X', hL, e1, e2, ⟨⟨hv, u, hP1, hD1⟩, hz, hk⟩, st⟩ := hr T hT X0
  have ew : w = v := by cases hv; rfl
  subst ew
  rw [h0] at hz hk
  obtain ⟨hP2, hD2⟩ := va_join hP hD isC isR hC hR hn hdis hk hF hP1 hD1
  have hS1 : va_S X.2.2.2.2.2.2.2.2.2.2.1 X.2.2.2.2.1.heap T'.heap (locs ++ L) := ⟨Nat.le_trans hS.1 (by rw [e1]; exact hz), fun q h1 h2 => by rw [e1, hk q (Nat.lt_of_lt_of_le h1 hS.1) (fun z => h2 (hF q z))]; exact hS.2.1 q h1 h2, fun q hq => by
      rcases List.mem_append.mp hq with h | h
      · exact hS.2.2 q h
      · exact hF _ (hL q h)⟩
  obtain ⟨t2, a1, b1⟩ := k9 u T'.heap (locs ++ L) ls (by rw [e1]; exact hP2) hD2 hS1 hl T' rfl X'
  exact ⟨t2, st t2 a1, b1⟩
def CalI (y : MethodName) (b : ByteArray) (nl n : Nat) : Prop := CalB y b nl none n ∧ Cond.instanceMethod y ∈ lw_gt ∧ y.name = "<init>"
theorem npre_at (C : NX X D cy cc nL own fr lo mc ms) {wc : va_W} {H : Heap} (hP : va_P D vwCl wc H) (hD : va_D (fun _ => True) wc) {U : State} (hU : U.heap = H) (hW : X.2.2.2.2.1.WarmedH U.vm) : NPre D cy wc H.size U := ⟨by rw [hU], by rw [hU]; exact hP, hD, va_K.moved hW.alike C.2.2.2.2.2.1, NWs.warm hW C.2.2.2.2.2.2.1⟩
theorem sub_map {ws wc : va_W} (is : List Nat) (h : is.map (fun i => ws[i]?) = wc.map some) : is.filterMap (fun i => ws[i]?) = wc := by
  induction is generalizing wc with
  | nil =>
    cases wc with
    | nil => rfl
    | cons a t => cases h
  | cons i t ih =>
    cases wc with
    | nil => cases h
    | cons a t2 =>
      rw [List.map_cons, List.map_cons] at h
      injection h with h1 h2
      rw [List.filterMap_cons, h1, ih h2]
theorem n_ctor (C : NX X D cy cc nL own fr lo mc ms) {idx a : Nat} {y : MethodName} {b : ByteArray} {nl f1 l1 m1 s1 : Nat} {wc wr : va_W} {post : (Nat → Nat) → va_W} {st : List Value} (As : List Value) (isC isR : List Nat) (ca : CalI y b nl As.length) (hw : Cond.methodLink own idx y ∈ lw_gt) (hC : isC.map (fun i => ws[i]?) = wc.map some) (hR : isR.map (fun i => ws[i]?) = wr.map some) (hnC : va_nd isC = true) (hn : va_nd isR = true) (hdis : ∀ i ∈ isR, i ∉ isC) (hrm : f1 + 1 ≤ fr ∧ 8 + (nl + 11) + l1 ≤ lo) (hcs : kc + m1 ≤ mc ∧ ks + s1 ≤ ms) (hst : (rest.map fun v => v.category).sum ≤ 8) (hd : decode cc pc = .ok (.invokespecial idx, 3)) (hM : NM X.2.1 D cy y b nl none f1 l1 m1 s1 (.ref a :: As) wc none post) (es : st = As.reverse ++ .ref a :: rest) (k9 : ∀ u : Nat → Nat, NZ X D nL Q (kc + m1) (ks + s1) (wr ++ post u) (pc + 3) lv rest) : NZ X D nL Q kc ks ws pc lv st := by
  subst es
  intro H locs ls hP hD hS hl
  have hts := C.2.2.2.2.1
  obtain ⟨⟨c1, c2, c3⟩, c4, c5⟩ := ca
  have hPc := hP.sub isC (sub_map isC hC)
  have hDc := (hD.sub isC hnC hC).weaken (B := fun _ => True) (fun _ _ _ _ => trivial)
  exact n_back C isC isR hC hR hn hdis (va_runI (As := As) (rest := rest) ⟨C.1, C.2.1, C.2.2.1, C.2.2.2.1, hts⟩ (hM H.size) ⟨callB_of As.length hts (gt_good c2) rfl rfl rfl (hts _ c1) (hts _ hw) c3 ⟨Nat.le_trans hrm.1 C.2.2.2.2.2.2.2.2.1, Nat.le_trans hrm.2 C.2.2.2.2.2.2.2.2.2.1⟩, c5, hts _ c4⟩ ⟨npre_blind, fun U hU hW => ⟨rfl, npre_at C hPc hDc hU hW⟩⟩ rfl rfl hl.1 rfl (lv_room hst) hd ⟨Nat.le_trans hcs.1 C.2.2.2.2.2.2.2.2.2.2.1, Nat.le_trans hcs.2 C.2.2.2.2.2.2.2.2.2.2.2.1⟩) hP hD hS hl k9
theorem n_ctorN (C : NX X D cy cc nL own fr lo mc ms) {idx a : Nat} {host : String} {y : MethodName} {b : ByteArray} {nl f1 l1 m1 s1 : Nat} {wc wr : va_W} {post : (Nat → Nat) → va_W} {st : List Value} (As : List Value) (isC isR : List Nat) (ca : CalI y b nl As.length) (hw : Cond.methodLinkNest own idx y host ∈ nestw) (hC : isC.map (fun i => ws[i]?) = wc.map some) (hR : isR.map (fun i => ws[i]?) = wr.map some) (hnC : va_nd isC = true) (hn : va_nd isR = true) (hdis : ∀ i ∈ isR, i ∉ isC) (hrm : f1 + 1 ≤ fr ∧ 8 + (nl + 11) + l1 ≤ lo) (hcs : kc + m1 ≤ mc ∧ ks + s1 ≤ ms) (hst : (rest.map fun v => v.category).sum ≤ 8) (hd : decode cc pc = .ok (.invokespecial idx, 3)) (hM : NM X.2.1 D cy y b nl none f1 l1 m1 s1 (.ref a :: As) wc none post) (es : st = As.reverse ++ .ref a :: rest) (k9 : ∀ u : Nat → Nat, NZ X D nL Q (kc + m1) (ks + s1) (wr ++ post u) (pc + 3) lv rest) : NZ X D nL Q kc ks ws pc lv st := by
  subst es
  intro H locs ls hP hD hS hl
  have hts := C.2.2.2.2.1
  obtain ⟨⟨c1, c2, c3⟩, c4, c5⟩ := ca
  have hPc := hP.sub isC (sub_map isC hC)
  have hDc := (hD.sub isC hnC hC).weaken (B := fun _ => True) (fun _ _ _ _ => trivial)
  exact n_back C isC isR hC hR hn hdis (va_runIN (As := As) (rest := rest) ⟨C.1, C.2.1, C.2.2.1, C.2.2.2.1, hts⟩ (hM H.size) ⟨va_cnB As.length hts (gt_good c2) rfl rfl rfl (C.2.2.2.2.2.2.1.1 _ hw) (hts _ c1) c3 ⟨Nat.le_trans hrm.1 C.2.2.2.2.2.2.2.2.1, Nat.le_trans hrm.2 C.2.2.2.2.2.2.2.2.2.1⟩, c5, hts _ c4⟩ ⟨npre_blind, fun U hU hW => ⟨rfl, npre_at C hPc hDc hU hW⟩⟩ rfl rfl hl.1 rfl (lv_room hst) hd ⟨Nat.le_trans hcs.1 C.2.2.2.2.2.2.2.2.2.2.1, Nat.le_trans hcs.2 C.2.2.2.2.2.2.2.2.2.2.2.1⟩) hP hD hS hl k9
end NROWS
theorem nmet_of {l : Launch} {D : va_G} {cy : Nat → ClassId} {y : MethodName} {b : ByteArray} {nl fr lo mc ms : Nat} {rt : Option FieldType} {av : List Value} {ws : va_W} {v : Option Value} {post : (Nat → Nat) → va_W} (own : String) (hown : y.cls = own) (hy : plainName y.cls = true) (lv : List (Nat × Value)) (hlv : lv_args 0 av = lv) (hlen : (lg_sl av).length ≤ nl)
    (body : ∀ (X : MC) (sz : Nat), X.2.1 = l → NX X D cy b nl own fr lo mc ms → X.2.2.2.2.2.2.2.2.1.sig.returnType = rt → X.2.2.2.2.2.2.2.2.1.name = y.name → X.2.2.2.2.2.2.2.2.2.2.1 = va_A ws sz → NZ X D nl (NQ X D ws sz v post mc ms) 0 0 ws 0 lv []) : NM l D cy y b nl rt fr lo mc ms av ws v post := by
  intro sz
  refine Met.ofW (cc := b) (maxL := nl) (ret := rt) hy rfl ?_
  intro p e s m args below meth c s₁ B hml hv
  obtain ⟨rfl, hsz, hP, hD, hK, hW⟩ := hv
  have hts := atoms_spec (ws := .code y b nl rt :: lw_gt) B.pre
  have hfc : s.vm.findClass own = some m.cls := by rw [← hown]; exact findClass_of_methodNamed B.named
  have hl := lv_entry av (n := nl) hlen
  rw [hlv] at hl
  rw [lg_entry_eq]
  subst hsz
  exact body (p, l, e, _, s, m, _, below, meth, c, va_A ws s.heap.size, 0, 0) s.heap.size rfl ⟨B.exec, B.bytes, hml, hfc, fun w hw => hts w (List.mem_cons_of_mem _ hw), hK, hW, B.notSynchronized, Nat.le_refl _, Nat.le_refl _, Nat.le_refl _, Nat.le_refl _, fun q h => Or.inr h⟩ B.returns (name_of_methodNamed B.named B.method).1 rfl s.heap [] _ hP hD.self va_S.rf hl
theorem tw_19 : (.classLink "TickPoolsLaw" 7 "TickPools" : Cond) ∈ lw_gt := tw_t tq_19 rfl
theorem tw_20 : (.instantiable "TickPools" 8 : Cond) ∈ lw_gt := tw_t tq_20 rfl
theorem tw_27 : (.classLink "TickPools" 7 "TickPools$Tape" : Cond) ∈ lw_gt := tw_t tq_27 rfl
theorem tw_28 : (.instantiable "TickPools$Tape" 7 : Cond) ∈ lw_gt := tw_t tq_28 rfl
theorem tw_60 : (.arrayClass .byte : Cond) ∈ lw_gt := tw_t tq_60 rfl
theorem tw_61 : (.classLink "TickPools" 16 "TickPools$Market" : Cond) ∈ lw_gt := tw_t tq_61 rfl
theorem tw_62 : (.instantiable "TickPools$Market" 9 : Cond) ∈ lw_gt := tw_t tq_62 rfl
theorem tw_67 : (.classLink "TickPools$Market" 15 "TickPools$Pool" : Cond) ∈ lw_gt := tw_t tq_67 rfl
theorem tw_69 : (.instantiable "TickPools$Pool" 12 : Cond) ∈ lw_gt := tw_t tq_69 rfl
theorem tw_140 : (.arrayClass .int : Cond) ∈ lw_gt := tw_t tq_140 rfl
theorem tw_141 : (.classLink "TickPools$Market" 22 "TickPools$Stake" : Cond) ∈ lw_gt := tw_t tq_141 rfl
theorem tw_143 : (.instantiable "TickPools$Stake" 8 : Cond) ∈ lw_gt := tw_t tq_143 rfl
theorem tw_189 : (.arrayClass .long : Cond) ∈ lw_gt := tw_t tq_189 rfl
theorem tw_230 : (.classLink "TickPools" 26 "TickPools$Trade" : Cond) ∈ lw_gt := tw_t tq_230 rfl
theorem tw_231 : (.instantiable "TickPools$Trade" 14 : Cond) ∈ lw_gt := tw_t tq_231 rfl
theorem tw_289 : (.classLink "TickPools" 33 "TickPools$MarketReader" : Cond) ∈ lw_gt := tw_t tq_289 rfl
theorem tw_290 : (.instantiable "TickPools$MarketReader" 2 : Cond) ∈ lw_gt := tw_t tq_290 rfl
theorem tw_302 : (.classLink "TickPools" 42 "TickPools$Script" : Cond) ∈ lw_gt := tw_t tq_302 rfl
theorem tw_303 : (.instantiable "TickPools$Script" 5 : Cond) ∈ lw_gt := tw_t tq_303 rfl
theorem tw_308 : (.classLink "TickPools$Script" 15 "TickPools$Step" : Cond) ∈ lw_gt := tw_t tq_308 rfl
theorem tw_310 : (.instantiable "TickPools$Step" 10 : Cond) ∈ lw_gt := tw_t tq_310 rfl
theorem tw_374 : (.classLink "TickPools" 51 "TickPools$Runner" : Cond) ∈ lw_gt := tw_t tq_374 rfl
theorem tw_375 : (.instantiable "TickPools$Runner" 13 : Cond) ∈ lw_gt := tw_t tq_375 rfl
theorem tw_422 : (.arrayClass .boolean : Cond) ∈ lw_gt := tw_t tq_422 rfl
theorem tw_423 : (.classLink "TickPools" 60 "TickPools$Finder" : Cond) ∈ lw_gt := tw_t tq_423 rfl
theorem tw_424 : (.instantiable "TickPools$Finder" 9 : Cond) ∈ lw_gt := tw_t tq_424 rfl
theorem tw_1193 : (.classLink "TickPoolsLaw" 10 "TickPoolsModel" : Cond) ∈ lw_gt := tw_t tq_1193 rfl
theorem tw_1194 : (.instantiable "TickPoolsModel" 55 : Cond) ∈ lw_gt := tw_t tq_1194 rfl
theorem dfX1 : ∀ j, j < 9 → defaultValue (tyX1 j) = vp_V [.long 0, .int 0, .int 0, .null, .null, .null, .null, .null, .null] j := by decide +kernel
theorem dfX2 : ∀ j, j < 9 → defaultValue (tyX2 j) = vp_V [.int 0, .int 0, .int 0, .int 0, .int 0, .int 0, .null, .null, .null] j := by decide +kernel
theorem dfX3 : ∀ j, j < 2 → defaultValue (tyX3 j) = vp_V [.null, .null] j := by decide +kernel
theorem dfX4 : ∀ j, j < 12 → defaultValue (tyX4 j) = vp_V [.int 0, .int 0, .int 0, .int 0, .int 0, .int 0, .int 0, .int 0, .null, .null, .null, .null] j := by decide +kernel
theorem dfX5 : ∀ j, j < 13 → defaultValue (tyX5 j) = vp_V [.int 0, .int 0, .null, .null, .null, .int 0, .int 0, .int 0, .long 0, .null, .null, .null, .null] j := by decide +kernel
theorem dfX6 : ∀ j, j < 5 → defaultValue (tyX6 j) = vp_V [.int 0, .null, .null, .null, .int 0] j := by decide +kernel
theorem dfX7 : ∀ j, j < 8 → defaultValue (tyX7 j) = vp_V [.int 0, .int 0, .int 0, .int 0, .int 0, .int 0, .null, .null] j := by decide +kernel
theorem dfX8 : ∀ j, j < 10 → defaultValue (tyX8 j) = vp_V [.int 0, .int 0, .int 0, .int 0, .int 0, .int 0, .int 0, .int 0, .int 0, .int 0] j := by decide +kernel
theorem dfX9 : ∀ j, j < 7 → defaultValue (tyX9 j) = vp_V [.int 0, .int 0, .int 0, .int 0, .int 0, .int 0, .null] j := by decide +kernel
theorem dfX10 : ∀ j, j < 14 → defaultValue (tyX10 j) = vp_V [.null, .null, .int 0, .int 0, .int 0, .int 0, .int 0, .int 0, .int 0, .int 0, .long 0, .long 0, .long 0, .long 0] j := by decide +kernel
theorem dfX11 : ∀ j, j < 8 → defaultValue (tyX11 j) = vp_V [.null, .null, .null, .null, .null, .null, .null, .null] j := by decide +kernel
theorem dfX12 : ∀ j, j < 55 → defaultValue (tyX12 j) = vp_V [.null, .int 0, .int 0, .int 0, .null, .null, .null, .null, .int 0, .int 0, .int 0, .int 0, .long 0, .long 0, .long 0, .long 0, .long 0, .long 0, .long 0, .long 0, .long 0, .long 0, .long 0, .long 0, .int 0, .int 0, .int 0, .null, .null, .long 0, .long 0, .long 0, .long 0, .int 0, .int 0, .null, .null, .null, .null, .null, .null, .null, .int 0, .int 0, .int 0, .long 0, .int 0, .null, .null, .null, .int 0, .long 0, .int 0, .long 0, .int 0] j := by decide +kernel
