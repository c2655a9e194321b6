/-! the walk over memory: an instruction a row -/
abbrev MC : Type := Program × Launch × Env × Room × State × MethodId × Array Value × List Frame × Method × Code × (Nat → Prop) × Nat × Nat
def lm (Γ : GG) (lv : List (Nat × AV)) : List (Nat × Value) := lv.map (fun q => (q.1, tv Γ q.2))
/-- from the frame at pc with these locals and this stack, over every heap that holds S, the machine comes to Q -/
def ZZ (X : MC) (Γ : GG) (nL : Nat) (Q : State → Prop) (S : Mem) (pc : Nat) (lv : List (Nat × AV)) (st : List AV) : Prop :=
  ∀ (H : Heap) (locs : List Loc) (ls : Array Slot), va_P Γ.1 vwCl (wl Γ S) H → va_S X.2.2.2.2.2.2.2.2.2.2.1 X.2.2.2.2.1.heap H locs → lv_has ls nL (lm Γ lv) →
    W X.1 X.2.1 X.2.2.1 X.2.2.2.1 X.2.2.2.2.1 X.2.2.2.2.2.1 X.2.2.2.2.2.2.1 X.2.2.2.2.2.2.2.1 X.2.2.2.2.2.2.2.2.1 X.2.2.2.2.2.2.2.2.2.1 H locs X.2.2.2.2.2.2.2.2.2.2.2.1 X.2.2.2.2.2.2.2.2.2.2.2.2 Q (F0 X.2.2.2.2.2.1 pc ls (st.map (tv Γ)))
/-- what stands fast in a method's body -/
def CX (X : MC) (Γ : GG) (cc : ByteArray) (nL : Nat) (own : String) (fr lo : Nat) : Prop :=
  X.1.tables.exec = Jvm.exec ∧ X.2.2.2.2.2.2.2.2.2.1.code = cc ∧ X.2.2.2.2.2.2.2.2.2.1.maxLocals = nL ∧ X.2.2.2.2.1.vm.findClass own = some X.2.2.2.2.2.1.cls ∧ (∀ w ∈ lw_gt, w.before X.2.2.2.2.2.2.1 X.2.2.2.2.1 = true) ∧ va_K Γ.1 vwCl (wty Γ) X.2.2.2.2.1 ∧ RO Γ X.2.2.2.2.2.2.2.2.2.2.1 X.2.2.2.2.1 X.2.2.2.2.1.heap ∧ RW Γ X.2.2.2.2.1 ∧ Inj Γ ∧ X.2.2.2.2.2.2.2.2.1.locks = false ∧ fr ≤ X.2.2.2.1.frames ∧ lo ≤ X.2.2.2.1.locals ∧ (∀ q, AD Γ q → X.2.2.2.2.2.2.2.2.2.2.1 q) ∧ X.2.2.2.2.2.2.2.2.2.2.2.1 ≤ X.2.2.2.1.cells ∧ X.2.2.2.2.2.2.2.2.2.2.2.2 ≤ X.2.2.2.1.slots
def Qc0 (Γ : GG) (A : Nat → Prop) (v : Option AV) (S : Mem) : Array Value → State → Outcome → State → Prop := fun _ st oc t => (oc = .returned (v.map (tv Γ)) ∧ va_P Γ.1 vwCl (wl Γ S) t.heap) ∧ va_F A st t
abbrev Qc1 (Γ : GG) (v : Option AV) (S : Mem) : Array Value → State → Outcome → State → Prop := Qc0 Γ (AD Γ) v S
/-- a method's end: it returned v, the heap holds S -/
def QQ (X : MC) (Γ : GG) (v : Option AV) (S : Mem) : State → Prop := MQ X.2.2.2.2.2.2.2.1 (Qc0 Γ X.2.2.2.2.2.2.2.2.2.2.1 v S) X.2.2.2.2.2.2.1 X.2.2.2.2.1 X.2.2.2.2.2.2.2.2.2.2.2.1 X.2.2.2.2.2.2.2.2.2.2.2.2 X.2.2.2.2.2.2.2.2.2.2.1
def Pre (Γ : GG) (S : Mem) (U : State) : Prop := va_P Γ.1 vwCl (wl Γ S) U.heap ∧ va_K Γ.1 vwCl (wty Γ) U ∧ RO Γ (AD Γ) U U.heap ∧ RW Γ U
/-- a method's contract: from S with the arguments av it returns v and leaves S' -/
def MM (l : Launch) (Γ : GG) (y : MethodName) (b : ByteArray) (nl : Nat) (rt : Option FieldType) (fr lo : Nat) (av : List AV) (S : Mem) (v : Option AV) (S' : Mem) : Prop :=
  Met l y (.code y b nl rt :: lw_gt) ({ frames := fr, cells := 0, slots := 0, locals := lo }) (va_Pc (av.map (tv Γ)) (Pre Γ S)) (Qc1 Γ v S') 0 0 (AD Γ)
theorem lm_at {Γ : GG} {lv : List (Nat × AV)} {j i : Nat} {a : AV} (h : lv[j]? = some (i, a)) : (lm Γ lv)[j]? = some (i, tv Γ a) := by
  unfold lm
  rw [List.getElem?_map, h]
  rfl
theorem lm_f1 (Γ : GG) (lv : List (Nat × AV)) (i : Nat) : (lm Γ lv).filter (fun q => !(q.1 == i) && !(q.1 + 1 == i && q.2.category == 2)) = lm Γ (lv.filter (fun q => !(q.1 == i) && !(q.1 + 1 == i && cat q.2 == 2))) := by
  unfold lm
  rw [List.filter_map]
  congr 1
  apply List.filter_congr
  intro q _
  simp only [Function.comp, tv_cat]
theorem lm_f2 (Γ : GG) (lv : List (Nat × AV)) (i : Nat) : (lm Γ lv).filter (fun q => !(q.1 == i) && (!(q.1 == i + 1) && !(q.1 + 1 == i && q.2.category == 2))) = lm Γ (lv.filter (fun q => !(q.1 == i) && (!(q.1 == i + 1) && !(q.1 + 1 == i && cat q.2 == 2)))) := by
  unfold lm
  rw [List.filter_map]
  congr 1
  apply List.filter_congr
  intro q _
  simp only [Function.comp, tv_cat]
section ZROWS
variable {X : MC} {Γ : GG} {cc : ByteArray} {nL : Nat} {own : String} {fr lo : Nat} {Q : State → Prop} {S : Mem} {pc : Nat} {lv : List (Nat × AV)} {rest : List AV}
theorem lm_sub (Γ : GG) (lv : List (Nat × AV)) (ks : List Nat) : lv_pick (lm Γ lv) ks = lm Γ (ks.filterMap (fun k => lv[k]?)) := by
  unfold lv_pick lm
  induction ks with
  | nil => rfl
  | cons a t ih =>
    rw [List.filterMap_cons, List.filterMap_cons, List.getElem?_map]
    cases e : lv[a]? with
    | none => exact ih
    | some q => exact congrArg (fun z => (q.1, tv Γ q.2) :: z) ih
theorem z_sub {lv' : List (Nat × AV)} {st : List AV} (ks : List Nat) (hl : ks.filterMap (fun k => lv[k]?) = lv') (k : ZZ X Γ nL Q S pc lv' st) : ZZ X Γ nL Q S pc lv st := fun H locs ls hP hS h => k H locs ls hP hS (lv_sub h ks ((lm_sub Γ lv ks).trans (congrArg (lm Γ) hl)))

theorem z_iconst (C : CX X Γ cc nL own fr lo) {n : Int} {v : Int32} (hd : decode cc pc = .ok (.iconst n, 1)) (hv : Int32.ofInt n = v) (k : ZZ X Γ nL Q S (pc + 1) lv (aI v :: rest)) : ZZ X Γ nL Q S pc lv (rest) := fun H locs ls hP hS hl => lv_iconst C.1 C.2.1 hd hv (k H locs ls hP hS hl)
theorem z_bipush (C : CX X Γ cc nL own fr lo) {n : Int} {v : Int32} (hd : decode cc pc = .ok (.bipush n, 2)) (hv : (Int8.ofInt n).toInt32 = v) (k : ZZ X Γ nL Q S (pc + 2) lv (aI v :: rest)) : ZZ X Γ nL Q S pc lv (rest) := fun H locs ls hP hS hl => lv_bipush C.1 C.2.1 hd hv (k H locs ls hP hS hl)
theorem z_sipush (C : CX X Γ cc nL own fr lo) {n : Int} {v : Int32} (hd : decode cc pc = .ok (.sipush n, 3)) (hv : (Int16.ofInt n).toInt32 = v) (k : ZZ X Γ nL Q S (pc + 3) lv (aI v :: rest)) : ZZ X Γ nL Q S pc lv (rest) := fun H locs ls hP hS hl => lv_sipush C.1 C.2.1 hd hv (k H locs ls hP hS hl)
theorem z_lconst (C : CX X Γ cc nL own fr lo) {n : Fin 2} {v : Int64} (hd : decode cc pc = .ok (.lconst n, 1)) (hv : Int64.ofNat (n : Nat) = v) (k : ZZ X Γ nL Q S (pc + 1) lv (aJ v :: rest)) : ZZ X Γ nL Q S pc lv (rest) := fun H locs ls hP hS hl => lv_lconst C.1 C.2.1 hd hv (k H locs ls hP hS hl)
theorem z_iadd (C : CX X Γ cc nL own fr lo) {x y : Int32} (hd : decode cc pc = .ok (.iadd, 1))  (k : ZZ X Γ nL Q S (pc + 1) lv (aI (x + y) :: rest)) : ZZ X Γ nL Q S pc lv (aI y :: aI x :: rest) := fun H locs ls hP hS hl => lv_iadd C.1 C.2.1 hd  (k H locs ls hP hS hl)
theorem z_isub (C : CX X Γ cc nL own fr lo) {x y : Int32} (hd : decode cc pc = .ok (.isub, 1))  (k : ZZ X Γ nL Q S (pc + 1) lv (aI (x - y) :: rest)) : ZZ X Γ nL Q S pc lv (aI y :: aI x :: rest) := fun H locs ls hP hS hl => lv_isub C.1 C.2.1 hd  (k H locs ls hP hS hl)
theorem z_imul (C : CX X Γ cc nL own fr lo) {x y : Int32} (hd : decode cc pc = .ok (.imul, 1))  (k : ZZ X Γ nL Q S (pc + 1) lv (aI (x * y) :: rest)) : ZZ X Γ nL Q S pc lv (aI y :: aI x :: rest) := fun H locs ls hP hS hl => lv_imul C.1 C.2.1 hd  (k H locs ls hP hS hl)
theorem z_iand (C : CX X Γ cc nL own fr lo) {x y : Int32} (hd : decode cc pc = .ok (.iand, 1))  (k : ZZ X Γ nL Q S (pc + 1) lv (aI (x &&& y) :: rest)) : ZZ X Γ nL Q S pc lv (aI y :: aI x :: rest) := fun H locs ls hP hS hl => lv_iand C.1 C.2.1 hd  (k H locs ls hP hS hl)
theorem z_ior (C : CX X Γ cc nL own fr lo) {x y : Int32} (hd : decode cc pc = .ok (.ior, 1))  (k : ZZ X Γ nL Q S (pc + 1) lv (aI (x ||| y) :: rest)) : ZZ X Γ nL Q S pc lv (aI y :: aI x :: rest) := fun H locs ls hP hS hl => lv_ior C.1 C.2.1 hd  (k H locs ls hP hS hl)
theorem z_ixor (C : CX X Γ cc nL own fr lo) {x y : Int32} (hd : decode cc pc = .ok (.ixor, 1))  (k : ZZ X Γ nL Q S (pc + 1) lv (aI (x ^^^ y) :: rest)) : ZZ X Γ nL Q S pc lv (aI y :: aI x :: rest) := fun H locs ls hP hS hl => lv_ixor C.1 C.2.1 hd  (k H locs ls hP hS hl)
theorem z_ladd (C : CX X Γ cc nL own fr lo) {x y : Int64} (hd : decode cc pc = .ok (.ladd, 1))  (k : ZZ X Γ nL Q S (pc + 1) lv (aJ (x + y) :: rest)) : ZZ X Γ nL Q S pc lv (aJ y :: aJ x :: rest) := fun H locs ls hP hS hl => lv_ladd C.1 C.2.1 hd  (k H locs ls hP hS hl)
theorem z_lsub (C : CX X Γ cc nL own fr lo) {x y : Int64} (hd : decode cc pc = .ok (.lsub, 1))  (k : ZZ X Γ nL Q S (pc + 1) lv (aJ (x - y) :: rest)) : ZZ X Γ nL Q S pc lv (aJ y :: aJ x :: rest) := fun H locs ls hP hS hl => lv_lsub C.1 C.2.1 hd  (k H locs ls hP hS hl)
theorem z_lmul (C : CX X Γ cc nL own fr lo) {x y : Int64} (hd : decode cc pc = .ok (.lmul, 1))  (k : ZZ X Γ nL Q S (pc + 1) lv (aJ (x * y) :: rest)) : ZZ X Γ nL Q S pc lv (aJ y :: aJ x :: rest) := fun H locs ls hP hS hl => lv_lmul C.1 C.2.1 hd  (k H locs ls hP hS hl)
theorem z_lor (C : CX X Γ cc nL own fr lo) {x y : Int64} (hd : decode cc pc = .ok (.lor, 1))  (k : ZZ X Γ nL Q S (pc + 1) lv (aJ (x ||| y) :: rest)) : ZZ X Γ nL Q S pc lv (aJ y :: aJ x :: rest) := fun H locs ls hP hS hl => lv_lor C.1 C.2.1 hd  (k H locs ls hP hS hl)
theorem z_ineg (C : CX X Γ cc nL own fr lo) {x : Int32} (hd : decode cc pc = .ok (.ineg, 1))  (k : ZZ X Γ nL Q S (pc + 1) lv (aI (-x) :: rest)) : ZZ X Γ nL Q S pc lv (aI x :: rest) := fun H locs ls hP hS hl => lv_ineg C.1 C.2.1 hd  (k H locs ls hP hS hl)
theorem z_lneg (C : CX X Γ cc nL own fr lo) {x : Int64} (hd : decode cc pc = .ok (.lneg, 1))  (k : ZZ X Γ nL Q S (pc + 1) lv (aJ (-x) :: rest)) : ZZ X Γ nL Q S pc lv (aJ x :: rest) := fun H locs ls hP hS hl => lv_lneg C.1 C.2.1 hd  (k H locs ls hP hS hl)
theorem z_ishl (C : CX X Γ cc nL own fr lo) {x y : Int32} (hd : decode cc pc = .ok (.ishl, 1))  (k : ZZ X Γ nL Q S (pc + 1) lv (aI (x <<< (y &&& 31)) :: rest)) : ZZ X Γ nL Q S pc lv (aI y :: aI x :: rest) := fun H locs ls hP hS hl => lv_ishl C.1 C.2.1 hd  (k H locs ls hP hS hl)
theorem z_ishr (C : CX X Γ cc nL own fr lo) {x y : Int32} (hd : decode cc pc = .ok (.ishr, 1))  (k : ZZ X Γ nL Q S (pc + 1) lv (aI (x >>> (y &&& 31)) :: rest)) : ZZ X Γ nL Q S pc lv (aI y :: aI x :: rest) := fun H locs ls hP hS hl => lv_ishr C.1 C.2.1 hd  (k H locs ls hP hS hl)
theorem z_lshr (C : CX X Γ cc nL own fr lo) {x : Int64} {y : Int32} (hd : decode cc pc = .ok (.lshr, 1))  (k : ZZ X Γ nL Q S (pc + 1) lv (aJ (x >>> (y.toInt64 &&& 63)) :: rest)) : ZZ X Γ nL Q S pc lv (aI y :: aJ x :: rest) := fun H locs ls hP hS hl => lv_lshr C.1 C.2.1 hd rfl (k H locs ls hP hS hl)
theorem z_idiv (C : CX X Γ cc nL own fr lo) {x y : Int32} (hd : decode cc pc = .ok (.idiv, 1)) (hne : ¬ y = 0) (k : ZZ X Γ nL Q S (pc + 1) lv (aI (x / y) :: rest)) : ZZ X Γ nL Q S pc lv (aI y :: aI x :: rest) := fun H locs ls hP hS hl => lv_idiv C.1 C.2.1 hd hne (k H locs ls hP hS hl)
theorem z_ldiv (C : CX X Γ cc nL own fr lo) {x y : Int64} (hd : decode cc pc = .ok (.ldiv, 1)) (hne : ¬ y = 0) (k : ZZ X Γ nL Q S (pc + 1) lv (aJ (x / y) :: rest)) : ZZ X Γ nL Q S pc lv (aJ y :: aJ x :: rest) := fun H locs ls hP hS hl => lv_ldiv C.1 C.2.1 hd hne (k H locs ls hP hS hl)
theorem z_irem (C : CX X Γ cc nL own fr lo) {x y : Int32} (hd : decode cc pc = .ok (.irem, 1)) (hne : ¬ y = 0) (k : ZZ X Γ nL Q S (pc + 1) lv (aI (x % y) :: rest)) : ZZ X Γ nL Q S pc lv (aI y :: aI x :: rest) := fun H locs ls hP hS hl => lv_irem C.1 C.2.1 hd hne (by rw [irem_eq_mod]; exact k H locs ls hP hS hl)
theorem z_i2l (C : CX X Γ cc nL own fr lo) {x : Int32} (hd : decode cc pc = .ok (.i2l, 1))  (k : ZZ X Γ nL Q S (pc + 1) lv (aJ x.toInt64 :: rest)) : ZZ X Γ nL Q S pc lv (aI x :: rest) := fun H locs ls hP hS hl => lv_i2l C.1 C.2.1 hd rfl (k H locs ls hP hS hl)
theorem z_l2i (C : CX X Γ cc nL own fr lo) {x : Int64} (hd : decode cc pc = .ok (.l2i, 1))  (k : ZZ X Γ nL Q S (pc + 1) lv (aI x.toInt32 :: rest)) : ZZ X Γ nL Q S pc lv (aJ x :: rest) := fun H locs ls hP hS hl => lv_l2i C.1 C.2.1 hd rfl (k H locs ls hP hS hl)
theorem z_i2b (C : CX X Γ cc nL own fr lo) {x : Int32} (hd : decode cc pc = .ok (.i2b, 1))  (k : ZZ X Γ nL Q S (pc + 1) lv (aI x.toInt8.toInt32 :: rest)) : ZZ X Γ nL Q S pc lv (aI x :: rest) := fun H locs ls hP hS hl => lv_i2b C.1 C.2.1 hd rfl (k H locs ls hP hS hl)
theorem z_dup (C : CX X Γ cc nL own fr lo) {a : AV} (hd : decode cc pc = .ok (.dup, 1)) (hc : cat a = 1) (k : ZZ X Γ nL Q S (pc + 1) lv (a :: a :: rest)) : ZZ X Γ nL Q S pc lv (a :: rest) := fun H locs ls hP hS hl => lv_dup C.1 C.2.1 hd ((tv_cat Γ a).trans hc) (k H locs ls hP hS hl)
theorem z_pop (C : CX X Γ cc nL own fr lo) {a : AV} (hd : decode cc pc = .ok (.pop, 1)) (hc : cat a = 1) (k : ZZ X Γ nL Q S (pc + 1) lv (rest)) : ZZ X Γ nL Q S pc lv (a :: rest) := fun H locs ls hP hS hl => lv_pop C.1 C.2.1 hd ((tv_cat Γ a).trans hc) (k H locs ls hP hS hl)
theorem z_pop2_2 (C : CX X Γ cc nL own fr lo) {a : AV} (hd : decode cc pc = .ok (.pop2, 1)) (hc : cat a = 2) (k : ZZ X Γ nL Q S (pc + 1) lv (rest)) : ZZ X Γ nL Q S pc lv (a :: rest) := fun H locs ls hP hS hl => lv_pop2_2 C.1 C.2.1 hd ((tv_cat Γ a).trans hc) (k H locs ls hP hS hl)
theorem z_dup2_11 (C : CX X Γ cc nL own fr lo) {a b : AV} (hd : decode cc pc = .ok (.dup2, 1)) (hc : cat a = 1) (hc2 : cat b = 1) (k : ZZ X Γ nL Q S (pc + 1) lv (a :: b :: a :: b :: rest)) : ZZ X Γ nL Q S pc lv (a :: b :: rest) := fun H locs ls hP hS hl => lv_dup2_11 C.1 C.2.1 hd ((tv_cat Γ a).trans hc) ((tv_cat Γ b).trans hc2) (k H locs ls hP hS hl)
theorem z_dup2_2 (C : CX X Γ cc nL own fr lo) {a : AV} (hd : decode cc pc = .ok (.dup2, 1)) (hc : cat a = 2) (k : ZZ X Γ nL Q S (pc + 1) lv (a :: a :: rest)) : ZZ X Γ nL Q S pc lv (a :: rest) := fun H locs ls hP hS hl => lv_dup2_2 C.1 C.2.1 hd ((tv_cat Γ a).trans hc) (k H locs ls hP hS hl)
theorem z_dup_x1 (C : CX X Γ cc nL own fr lo) {a b : AV} (hd : decode cc pc = .ok (.dup_x1, 1)) (hc : cat a = 1) (hc2 : cat b = 1) (k : ZZ X Γ nL Q S (pc + 1) lv (a :: b :: a :: rest)) : ZZ X Γ nL Q S pc lv (a :: b :: rest) := fun H locs ls hP hS hl => lv_dup_x1 C.1 C.2.1 hd ((tv_cat Γ a).trans hc) ((tv_cat Γ b).trans hc2) (k H locs ls hP hS hl)
theorem z_dup2_x1_2 (C : CX X Γ cc nL own fr lo) {a b : AV} (hd : decode cc pc = .ok (.dup2_x1, 1)) (hc : cat a = 2) (hc2 : cat b = 1) (k : ZZ X Γ nL Q S (pc + 1) lv (a :: b :: a :: rest)) : ZZ X Γ nL Q S pc lv (a :: b :: rest) := fun H locs ls hP hS hl => lv_dup2_x1_2 C.1 C.2.1 hd ((tv_cat Γ a).trans hc) ((tv_cat Γ b).trans hc2) (k H locs ls hP hS hl)
theorem z_iload_n (C : CX X Γ cc nL own fr lo) {j : Nat} {i : Fin 4} {x : Int32} (hd : decode cc pc = .ok (.iload_n i, 1)) (hj : lv[j]? = some ((i : Nat), aI x)) (k : ZZ X Γ nL Q S (pc + 1) lv (aI x :: rest)) : ZZ X Γ nL Q S pc lv (rest) := fun H locs ls hP hS hl => lv_iload_n C.1 C.2.1 hd rfl (lv_at hl j (lm_at hj)) (k H locs ls hP hS hl)
theorem z_iload (C : CX X Γ cc nL own fr lo) {j i : Nat} {x : Int32} (hd : decode cc pc = .ok (.iload i, 2)) (hj : lv[j]? = some (i, aI x)) (k : ZZ X Γ nL Q S (pc + 2) lv (aI x :: rest)) : ZZ X Γ nL Q S pc lv (rest) := fun H locs ls hP hS hl => lv_iload C.1 C.2.1 hd (lv_at hl j (lm_at hj)) (k H locs ls hP hS hl)
theorem z_lload_n (C : CX X Γ cc nL own fr lo) {j : Nat} {i : Fin 4} {x : Int64} (hd : decode cc pc = .ok (.lload_n i, 1)) (hj : lv[j]? = some ((i : Nat), aJ x)) (k : ZZ X Γ nL Q S (pc + 1) lv (aJ x :: rest)) : ZZ X Γ nL Q S pc lv (rest) := fun H locs ls hP hS hl => lv_lload_n C.1 C.2.1 hd rfl (lv_at hl j (lm_at hj)) (k H locs ls hP hS hl)
theorem z_lload (C : CX X Γ cc nL own fr lo) {j i : Nat} {x : Int64} (hd : decode cc pc = .ok (.lload i, 2)) (hj : lv[j]? = some (i, aJ x)) (k : ZZ X Γ nL Q S (pc + 2) lv (aJ x :: rest)) : ZZ X Γ nL Q S pc lv (rest) := fun H locs ls hP hS hl => lv_lload C.1 C.2.1 hd (lv_at hl j (lm_at hj)) (k H locs ls hP hS hl)
theorem rv_or (Γ : GG) (h : Nat) : rv Γ h = .null ∨ rv Γ h = .ref (Γ.2.1 h) := by
  unfold rv rfo
  by_cases e : h = 0
  · rw [if_pos e]; exact Or.inl rfl
  · rw [if_neg e]; exact Or.inr rfl
theorem z_aload_n (C : CX X Γ cc nL own fr lo) {j : Nat} {i : Fin 4} {h : Nat} (hd : decode cc pc = .ok (.aload_n i, 1)) (hj : lv[j]? = some ((i : Nat), aR h)) (k : ZZ X Γ nL Q S (pc + 1) lv (aR h :: rest)) : ZZ X Γ nL Q S pc lv rest := by
  intro H locs ls hP hS hl
  have h1 := lv_at hl j (lm_at hj)
  have h2 := k H locs ls hP hS hl
  have e : (aR h :: rest).map (tv Γ) = rv Γ h :: rest.map (tv Γ) := rfl
  rw [e] at h2
  have e1 : tv Γ (aR h) = rv Γ h := rfl
  rw [e1] at h1
  rcases rv_or Γ h with q | q
  · rw [q] at h1 h2
    exact lv_aload_nN C.1 C.2.1 hd rfl h1 h2
  · rw [q] at h1 h2
    exact lv_aload_n C.1 C.2.1 hd rfl h1 h2
theorem z_aload (C : CX X Γ cc nL own fr lo) {j i h : Nat} (hd : decode cc pc = .ok (.aload i, 2)) (hj : lv[j]? = some (i, aR h)) (k : ZZ X Γ nL Q S (pc + 2) lv (aR h :: rest)) : ZZ X Γ nL Q S pc lv rest := by
  intro H locs ls hP hS hl
  have h1 := lv_at hl j (lm_at hj)
  have h2 := k H locs ls hP hS hl
  have e : (aR h :: rest).map (tv Γ) = rv Γ h :: rest.map (tv Γ) := rfl
  rw [e] at h2
  have e1 : tv Γ (aR h) = rv Γ h := rfl
  rw [e1] at h1
  rcases rv_or Γ h with q | q
  · rw [q] at h1 h2
    exact lv_aloadN C.1 C.2.1 hd h1 h2
  · rw [q] at h1 h2
    exact lv_aload C.1 C.2.1 hd h1 h2
theorem z_null (C : CX X Γ cc nL own fr lo) (hd : decode cc pc = .ok (.aconst_null, 1)) (k : ZZ X Γ nL Q S (pc + 1) lv (aR 0 :: rest)) : ZZ X Γ nL Q S pc lv rest := fun H locs ls hP hS hl => lv_null C.1 C.2.1 hd (k H locs ls hP hS hl)
theorem z_istore_n (C : CX X Γ cc nL own fr lo) {i : Fin 4} {x : Int32} {lv' : List (Nat × AV)} (hd : decode cc pc = .ok (.istore_n i, 1)) (hn : (i : Nat) < nL) (hl9 : ((i : Nat), aI x) :: lv.filter (fun q => !(q.1 == (i : Nat)) && !(q.1 + 1 == (i : Nat) && cat q.2 == 2)) = lv') (k : ZZ X Γ nL Q S (pc + 1) lv' rest) : ZZ X Γ nL Q S pc lv (aI x :: rest) := fun H locs ls hP hS hl => lv_istore_n C.1 C.2.1 hd rfl hl hn (by rw [lm_f1, ← hl9]; rfl) (fun ls' hl' => k H locs ls' hP hS hl')
theorem z_istore (C : CX X Γ cc nL own fr lo) {i : Nat} {x : Int32} {lv' : List (Nat × AV)} (hd : decode cc pc = .ok (.istore i, 2)) (hn : i < nL) (hl9 : (i, aI x) :: lv.filter (fun q => !(q.1 == i) && !(q.1 + 1 == i && cat q.2 == 2)) = lv') (k : ZZ X Γ nL Q S (pc + 2) lv' rest) : ZZ X Γ nL Q S pc lv (aI x :: rest) := fun H locs ls hP hS hl => lv_istore C.1 C.2.1 hd hl hn (by rw [lm_f1, ← hl9]; rfl) (fun ls' hl' => k H locs ls' hP hS hl')
theorem z_lstore_n (C : CX X Γ cc nL own fr lo) {i : Fin 4} {x : Int64} {lv' : List (Nat × AV)} (hd : decode cc pc = .ok (.lstore_n i, 1)) (hn : (i : Nat) + 1 < nL) (hl9 : ((i : Nat), aJ x) :: lv.filter (fun q => !(q.1 == (i : Nat)) && (!(q.1 == (i : Nat) + 1) && !(q.1 + 1 == (i : Nat) && cat q.2 == 2))) = lv') (k : ZZ X Γ nL Q S (pc + 1) lv' rest) : ZZ X Γ nL Q S pc lv (aJ x :: rest) := fun H locs ls hP hS hl => lv_lstore_n C.1 C.2.1 hd rfl hl hn (by rw [lm_f2, ← hl9]; rfl) (fun ls' hl' => k H locs ls' hP hS hl')
theorem z_lstore (C : CX X Γ cc nL own fr lo) {i : Nat} {x : Int64} {lv' : List (Nat × AV)} (hd : decode cc pc = .ok (.lstore i, 2)) (hn : i + 1 < nL) (hl9 : (i, aJ x) :: lv.filter (fun q => !(q.1 == i) && (!(q.1 == i + 1) && !(q.1 + 1 == i && cat q.2 == 2))) = lv') (k : ZZ X Γ nL Q S (pc + 2) lv' rest) : ZZ X Γ nL Q S pc lv (aJ x :: rest) := fun H locs ls hP hS hl => lv_lstore C.1 C.2.1 hd hl hn (by rw [lm_f2, ← hl9]; rfl) (fun ls' hl' => k H locs ls' hP hS hl')
theorem z_astore_n (C : CX X Γ cc nL own fr lo) {i : Fin 4} {h : Nat} {lv' : List (Nat × AV)} (hd : decode cc pc = .ok (.astore_n i, 1)) (hn : (i : Nat) < nL) (hl9 : ((i : Nat), aR h) :: lv.filter (fun q => !(q.1 == (i : Nat)) && !(q.1 + 1 == (i : Nat) && cat q.2 == 2)) = lv') (k : ZZ X Γ nL Q S (pc + 1) lv' rest) : ZZ X Γ nL Q S pc lv (aR h :: rest) := by
  intro H locs ls hP hS hl
  show W _ _ _ _ _ _ _ _ _ _ _ _ _ _ _ (F0 _ pc ls (rv Γ h :: rest.map (tv Γ)))
  have e : ((i : Nat), rv Γ h) :: (lm Γ lv).filter (fun q => !(q.1 == (i : Nat)) && !(q.1 + 1 == (i : Nat) && q.2.category == 2)) = lm Γ lv' := by rw [lm_f1, ← hl9]; rfl
  rcases rv_or Γ h with q | q
  · rw [q] at e ⊢
    exact lv_astore_nN C.1 C.2.1 hd rfl hl hn e (fun ls' hl' => k H locs ls' hP hS hl')
  · rw [q] at e ⊢
    exact lv_astore_n C.1 C.2.1 hd rfl hl hn e (fun ls' hl' => k H locs ls' hP hS hl')
theorem z_astore (C : CX X Γ cc nL own fr lo) {i : Nat} {h : Nat} {lv' : List (Nat × AV)} (hd : decode cc pc = .ok (.astore i, 2)) (hn : i < nL) (hl9 : (i, aR h) :: lv.filter (fun q => !(q.1 == i) && !(q.1 + 1 == i && cat q.2 == 2)) = lv') (k : ZZ X Γ nL Q S (pc + 2) lv' rest) : ZZ X Γ nL Q S pc lv (aR h :: rest) := by
  intro H locs ls hP hS hl
  show W _ _ _ _ _ _ _ _ _ _ _ _ _ _ _ (F0 _ pc ls (rv Γ h :: rest.map (tv Γ)))
  have e : (i, rv Γ h) :: (lm Γ lv).filter (fun q => !(q.1 == i) && !(q.1 + 1 == i && q.2.category == 2)) = lm Γ lv' := by rw [lm_f1, ← hl9]; rfl
  rcases rv_or Γ h with q | q
  · rw [q] at e ⊢
    exact lv_astoreN C.1 C.2.1 hd hl hn e (fun ls' hl' => k H locs ls' hP hS hl')
  · rw [q] at e ⊢
    exact lv_astore C.1 C.2.1 hd hl hn e (fun ls' hl' => k H locs ls' hP hS hl')
theorem z_iinc (C : CX X Γ cc nL own fr lo) {i j : Nat} {n : Int} {x v : Int32} {lv' : List (Nat × AV)} (hd : decode cc pc = .ok (.iinc i n, 3)) (hj : lv[j]? = some (i, aI x)) (hv : x + Int32.ofInt n = v) (hn : i < nL) (hl9 : (i, aI v) :: lv.filter (fun q => !(q.1 == i) && !(q.1 + 1 == i && cat q.2 == 2)) = lv') (k : ZZ X Γ nL Q S (pc + 3) lv' rest) : ZZ X Γ nL Q S pc lv rest := fun H locs ls hP hS hl => lv_iinc C.1 C.2.1 hd hl (lm_at hj) hv hn (by rw [lm_f1, ← hl9]; rfl) (fun ls' hl' => k H locs ls' hP hS hl')
theorem z_icmp_eq (C : CX X Γ cc nL own fr lo) {x y : Int32} {off : Int} {tgt : Nat} {α : Type} {A B : Option α} {q : α} (hd : decode cc pc = .ok (.if_icmp .eq off, 3)) (ht : (pc : Int) + off = (tgt : Int)) (hf : (if x = y then A else B) = some q) (kt : x = y → A = some q → ZZ X Γ nL Q S tgt lv rest) (kf : ¬ x = y → B = some q → ZZ X Γ nL Q S (pc + 3) lv rest) : ZZ X Γ nL Q S pc lv (aI y :: aI x :: rest) := fun H locs ls hP hS hl => lv_icmp_eq C.1 C.2.1 hd ht (fun c => kt c (by rw [if_pos c] at hf; exact hf) H locs ls hP hS hl) (fun c => kf c (by rw [if_neg c] at hf; exact hf) H locs ls hP hS hl)
theorem z_icmp_ne (C : CX X Γ cc nL own fr lo) {x y : Int32} {off : Int} {tgt : Nat} {α : Type} {A B : Option α} {q : α} (hd : decode cc pc = .ok (.if_icmp .ne off, 3)) (ht : (pc : Int) + off = (tgt : Int)) (hf : (if x = y then B else A) = some q) (kt : ¬ x = y → A = some q → ZZ X Γ nL Q S tgt lv rest) (kf : x = y → B = some q → ZZ X Γ nL Q S (pc + 3) lv rest) : ZZ X Γ nL Q S pc lv (aI y :: aI x :: rest) := fun H locs ls hP hS hl => lv_icmp_ne C.1 C.2.1 hd ht (fun c => kt c (by rw [if_neg c] at hf; exact hf) H locs ls hP hS hl) (fun c => kf c (by rw [if_pos c] at hf; exact hf) H locs ls hP hS hl)
theorem z_icmp_lt (C : CX X Γ cc nL own fr lo) {x y : Int32} {off : Int} {tgt : Nat} {α : Type} {A B : Option α} {q : α} (hd : decode cc pc = .ok (.if_icmp .lt off, 3)) (ht : (pc : Int) + off = (tgt : Int)) (hf : (if x < y then A else B) = some q) (kt : x < y → A = some q → ZZ X Γ nL Q S tgt lv rest) (kf : ¬ x < y → B = some q → ZZ X Γ nL Q S (pc + 3) lv rest) : ZZ X Γ nL Q S pc lv (aI y :: aI x :: rest) := fun H locs ls hP hS hl => lv_icmp_lt C.1 C.2.1 hd ht (fun c => kt c (by rw [if_pos c] at hf; exact hf) H locs ls hP hS hl) (fun c => kf c (by rw [if_neg c] at hf; exact hf) H locs ls hP hS hl)
theorem z_icmp_ge (C : CX X Γ cc nL own fr lo) {x y : Int32} {off : Int} {tgt : Nat} {α : Type} {A B : Option α} {q : α} (hd : decode cc pc = .ok (.if_icmp .ge off, 3)) (ht : (pc : Int) + off = (tgt : Int)) (hf : (if y ≤ x then A else B) = some q) (kt : y ≤ x → A = some q → ZZ X Γ nL Q S tgt lv rest) (kf : ¬ y ≤ x → B = some q → ZZ X Γ nL Q S (pc + 3) lv rest) : ZZ X Γ nL Q S pc lv (aI y :: aI x :: rest) := fun H locs ls hP hS hl => lv_icmp_ge C.1 C.2.1 hd ht (fun c => kt c (by rw [if_pos c] at hf; exact hf) H locs ls hP hS hl) (fun c => kf c (by rw [if_neg c] at hf; exact hf) H locs ls hP hS hl)
theorem z_icmp_gt (C : CX X Γ cc nL own fr lo) {x y : Int32} {off : Int} {tgt : Nat} {α : Type} {A B : Option α} {q : α} (hd : decode cc pc = .ok (.if_icmp .gt off, 3)) (ht : (pc : Int) + off = (tgt : Int)) (hf : (if y < x then A else B) = some q) (kt : y < x → A = some q → ZZ X Γ nL Q S tgt lv rest) (kf : ¬ y < x → B = some q → ZZ X Γ nL Q S (pc + 3) lv rest) : ZZ X Γ nL Q S pc lv (aI y :: aI x :: rest) := fun H locs ls hP hS hl => lv_icmp_gt C.1 C.2.1 hd ht (fun c => kt c (by rw [if_pos c] at hf; exact hf) H locs ls hP hS hl) (fun c => kf c (by rw [if_neg c] at hf; exact hf) H locs ls hP hS hl)
theorem z_icmp_le (C : CX X Γ cc nL own fr lo) {x y : Int32} {off : Int} {tgt : Nat} {α : Type} {A B : Option α} {q : α} (hd : decode cc pc = .ok (.if_icmp .le off, 3)) (ht : (pc : Int) + off = (tgt : Int)) (hf : (if x ≤ y then A else B) = some q) (kt : x ≤ y → A = some q → ZZ X Γ nL Q S tgt lv rest) (kf : ¬ x ≤ y → B = some q → ZZ X Γ nL Q S (pc + 3) lv rest) : ZZ X Γ nL Q S pc lv (aI y :: aI x :: rest) := fun H locs ls hP hS hl => lv_icmp_le C.1 C.2.1 hd ht (fun c => kt c (by rw [if_pos c] at hf; exact hf) H locs ls hP hS hl) (fun c => kf c (by rw [if_neg c] at hf; exact hf) H locs ls hP hS hl)
theorem z_if_eq (C : CX X Γ cc nL own fr lo) {x : Int32} {off : Int} {tgt : Nat} {α : Type} {A B : Option α} {q : α} (hd : decode cc pc = .ok (.ifCond .eq off, 3)) (ht : (pc : Int) + off = (tgt : Int)) (hf : (if x = 0 then A else B) = some q) (kt : x = 0 → A = some q → ZZ X Γ nL Q S tgt lv rest) (kf : ¬ x = 0 → B = some q → ZZ X Γ nL Q S (pc + 3) lv rest) : ZZ X Γ nL Q S pc lv (aI x :: rest) := fun H locs ls hP hS hl => lv_if_eq C.1 C.2.1 hd ht (fun c => kt c (by rw [if_pos c] at hf; exact hf) H locs ls hP hS hl) (fun c => kf c (by rw [if_neg c] at hf; exact hf) H locs ls hP hS hl)
theorem z_if_ne (C : CX X Γ cc nL own fr lo) {x : Int32} {off : Int} {tgt : Nat} {α : Type} {A B : Option α} {q : α} (hd : decode cc pc = .ok (.ifCond .ne off, 3)) (ht : (pc : Int) + off = (tgt : Int)) (hf : (if x = 0 then B else A) = some q) (kt : ¬ x = 0 → A = some q → ZZ X Γ nL Q S tgt lv rest) (kf : x = 0 → B = some q → ZZ X Γ nL Q S (pc + 3) lv rest) : ZZ X Γ nL Q S pc lv (aI x :: rest) := fun H locs ls hP hS hl => lv_if_ne C.1 C.2.1 hd ht (fun c => kt c (by rw [if_neg c] at hf; exact hf) H locs ls hP hS hl) (fun c => kf c (by rw [if_pos c] at hf; exact hf) H locs ls hP hS hl)
theorem z_if_lt (C : CX X Γ cc nL own fr lo) {x : Int32} {off : Int} {tgt : Nat} {α : Type} {A B : Option α} {q : α} (hd : decode cc pc = .ok (.ifCond .lt off, 3)) (ht : (pc : Int) + off = (tgt : Int)) (hf : (if x < 0 then A else B) = some q) (kt : x < 0 → A = some q → ZZ X Γ nL Q S tgt lv rest) (kf : ¬ x < 0 → B = some q → ZZ X Γ nL Q S (pc + 3) lv rest) : ZZ X Γ nL Q S pc lv (aI x :: rest) := fun H locs ls hP hS hl => lv_if_lt C.1 C.2.1 hd ht (fun c => kt c (by rw [if_pos c] at hf; exact hf) H locs ls hP hS hl) (fun c => kf c (by rw [if_neg c] at hf; exact hf) H locs ls hP hS hl)
theorem z_if_ge (C : CX X Γ cc nL own fr lo) {x : Int32} {off : Int} {tgt : Nat} {α : Type} {A B : Option α} {q : α} (hd : decode cc pc = .ok (.ifCond .ge off, 3)) (ht : (pc : Int) + off = (tgt : Int)) (hf : (if 0 ≤ x then A else B) = some q) (kt : 0 ≤ x → A = some q → ZZ X Γ nL Q S tgt lv rest) (kf : ¬ 0 ≤ x → B = some q → ZZ X Γ nL Q S (pc + 3) lv rest) : ZZ X Γ nL Q S pc lv (aI x :: rest) := fun H locs ls hP hS hl => lv_if_ge C.1 C.2.1 hd ht (fun c => kt c (by rw [if_pos c] at hf; exact hf) H locs ls hP hS hl) (fun c => kf c (by rw [if_neg c] at hf; exact hf) H locs ls hP hS hl)
theorem z_if_gt (C : CX X Γ cc nL own fr lo) {x : Int32} {off : Int} {tgt : Nat} {α : Type} {A B : Option α} {q : α} (hd : decode cc pc = .ok (.ifCond .gt off, 3)) (ht : (pc : Int) + off = (tgt : Int)) (hf : (if 0 < x then A else B) = some q) (kt : 0 < x → A = some q → ZZ X Γ nL Q S tgt lv rest) (kf : ¬ 0 < x → B = some q → ZZ X Γ nL Q S (pc + 3) lv rest) : ZZ X Γ nL Q S pc lv (aI x :: rest) := fun H locs ls hP hS hl => lv_if_gt C.1 C.2.1 hd ht (fun c => kt c (by rw [if_pos c] at hf; exact hf) H locs ls hP hS hl) (fun c => kf c (by rw [if_neg c] at hf; exact hf) H locs ls hP hS hl)
theorem z_if_le (C : CX X Γ cc nL own fr lo) {x : Int32} {off : Int} {tgt : Nat} {α : Type} {A B : Option α} {q : α} (hd : decode cc pc = .ok (.ifCond .le off, 3)) (ht : (pc : Int) + off = (tgt : Int)) (hf : (if x ≤ 0 then A else B) = some q) (kt : x ≤ 0 → A = some q → ZZ X Γ nL Q S tgt lv rest) (kf : ¬ x ≤ 0 → B = some q → ZZ X Γ nL Q S (pc + 3) lv rest) : ZZ X Γ nL Q S pc lv (aI x :: rest) := fun H locs ls hP hS hl => lv_if_le C.1 C.2.1 hd ht (fun c => kt c (by rw [if_pos c] at hf; exact hf) H locs ls hP hS hl) (fun c => kf c (by rw [if_neg c] at hf; exact hf) H locs ls hP hS hl)
theorem z_leq (C : CX X Γ cc nL own fr lo) {x y : Int64} {off : Int} {tgt : Nat} {α : Type} {A B : Option α} {q : α} (hd0 : decode cc pc = .ok (.lcmp, 1)) (hd : decode cc (pc + 1) = .ok (.ifCond .eq off, 3)) (ht : ((pc + 1 : Nat) : Int) + off = (tgt : Int)) (hf : (if x = y then A else B) = some q) (kt : x = y → A = some q → ZZ X Γ nL Q S tgt lv rest) (kf : ¬ x = y → B = some q → ZZ X Γ nL Q S (pc + 4) lv rest) : ZZ X Γ nL Q S pc lv (aJ y :: aJ x :: rest) := fun H locs ls hP hS hl => W.lcmp C.1 C.2.1 hd0 (lv_if_eq C.1 C.2.1 hd ht (fun c => kt ((lg_cmp_eq x y).mp c) (by rw [if_pos ((lg_cmp_eq x y).mp c)] at hf; exact hf) H locs ls hP hS hl) (fun c => kf (fun h => c ((lg_cmp_eq x y).mpr h)) (by rw [if_neg (fun h => c ((lg_cmp_eq x y).mpr h))] at hf; exact hf) H locs ls hP hS hl))
theorem z_lne (C : CX X Γ cc nL own fr lo) {x y : Int64} {off : Int} {tgt : Nat} {α : Type} {A B : Option α} {q : α} (hd0 : decode cc pc = .ok (.lcmp, 1)) (hd : decode cc (pc + 1) = .ok (.ifCond .ne off, 3)) (ht : ((pc + 1 : Nat) : Int) + off = (tgt : Int)) (hf : (if x = y then B else A) = some q) (kt : ¬ x = y → A = some q → ZZ X Γ nL Q S tgt lv rest) (kf : x = y → B = some q → ZZ X Γ nL Q S (pc + 4) lv rest) : ZZ X Γ nL Q S pc lv (aJ y :: aJ x :: rest) := fun H locs ls hP hS hl => W.lcmp C.1 C.2.1 hd0 (lv_if_ne C.1 C.2.1 hd ht (fun c => kt (fun h => c ((lg_cmp_eq x y).mpr h)) (by rw [if_neg (fun h => c ((lg_cmp_eq x y).mpr h))] at hf; exact hf) H locs ls hP hS hl) (fun c => kf ((lg_cmp_eq x y).mp c) (by rw [if_pos ((lg_cmp_eq x y).mp c)] at hf; exact hf) H locs ls hP hS hl))
theorem z_llt (C : CX X Γ cc nL own fr lo) {x y : Int64} {off : Int} {tgt : Nat} {α : Type} {A B : Option α} {q : α} (hd0 : decode cc pc = .ok (.lcmp, 1)) (hd : decode cc (pc + 1) = .ok (.ifCond .lt off, 3)) (ht : ((pc + 1 : Nat) : Int) + off = (tgt : Int)) (hf : (if x < y then A else B) = some q) (kt : x < y → A = some q → ZZ X Γ nL Q S tgt lv rest) (kf : ¬ x < y → B = some q → ZZ X Γ nL Q S (pc + 4) lv rest) : ZZ X Γ nL Q S pc lv (aJ y :: aJ x :: rest) := fun H locs ls hP hS hl => W.lcmp C.1 C.2.1 hd0 (lv_if_lt C.1 C.2.1 hd ht (fun c => kt ((lg_cmp_lt x y).mp c) (by rw [if_pos ((lg_cmp_lt x y).mp c)] at hf; exact hf) H locs ls hP hS hl) (fun c => kf (fun h => c ((lg_cmp_lt x y).mpr h)) (by rw [if_neg (fun h => c ((lg_cmp_lt x y).mpr h))] at hf; exact hf) H locs ls hP hS hl))
theorem z_lge (C : CX X Γ cc nL own fr lo) {x y : Int64} {off : Int} {tgt : Nat} {α : Type} {A B : Option α} {q : α} (hd0 : decode cc pc = .ok (.lcmp, 1)) (hd : decode cc (pc + 1) = .ok (.ifCond .ge off, 3)) (ht : ((pc + 1 : Nat) : Int) + off = (tgt : Int)) (hf : (if y ≤ x then A else B) = some q) (kt : y ≤ x → A = some q → ZZ X Γ nL Q S tgt lv rest) (kf : ¬ y ≤ x → B = some q → ZZ X Γ nL Q S (pc + 4) lv rest) : ZZ X Γ nL Q S pc lv (aJ y :: aJ x :: rest) := fun H locs ls hP hS hl => W.lcmp C.1 C.2.1 hd0 (lv_if_ge C.1 C.2.1 hd ht (fun c => kt ((lg_cmp_ge x y).mp c) (by rw [if_pos ((lg_cmp_ge x y).mp c)] at hf; exact hf) H locs ls hP hS hl) (fun c => kf (fun h => c ((lg_cmp_ge x y).mpr h)) (by rw [if_neg (fun h => c ((lg_cmp_ge x y).mpr h))] at hf; exact hf) H locs ls hP hS hl))
theorem z_lgt (C : CX X Γ cc nL own fr lo) {x y : Int64} {off : Int} {tgt : Nat} {α : Type} {A B : Option α} {q : α} (hd0 : decode cc pc = .ok (.lcmp, 1)) (hd : decode cc (pc + 1) = .ok (.ifCond .gt off, 3)) (ht : ((pc + 1 : Nat) : Int) + off = (tgt : Int)) (hf : (if y < x then A else B) = some q) (kt : y < x → A = some q → ZZ X Γ nL Q S tgt lv rest) (kf : ¬ y < x → B = some q → ZZ X Γ nL Q S (pc + 4) lv rest) : ZZ X Γ nL Q S pc lv (aJ y :: aJ x :: rest) := fun H locs ls hP hS hl => W.lcmp C.1 C.2.1 hd0 (lv_if_gt C.1 C.2.1 hd ht (fun c => kt ((lg_cmp_gt x y).mp c) (by rw [if_pos ((lg_cmp_gt x y).mp c)] at hf; exact hf) H locs ls hP hS hl) (fun c => kf (fun h => c ((lg_cmp_gt x y).mpr h)) (by rw [if_neg (fun h => c ((lg_cmp_gt x y).mpr h))] at hf; exact hf) H locs ls hP hS hl))
theorem z_lle (C : CX X Γ cc nL own fr lo) {x y : Int64} {off : Int} {tgt : Nat} {α : Type} {A B : Option α} {q : α} (hd0 : decode cc pc = .ok (.lcmp, 1)) (hd : decode cc (pc + 1) = .ok (.ifCond .le off, 3)) (ht : ((pc + 1 : Nat) : Int) + off = (tgt : Int)) (hf : (if x ≤ y then A else B) = some q) (kt : x ≤ y → A = some q → ZZ X Γ nL Q S tgt lv rest) (kf : ¬ x ≤ y → B = some q → ZZ X Γ nL Q S (pc + 4) lv rest) : ZZ X Γ nL Q S pc lv (aJ y :: aJ x :: rest) := fun H locs ls hP hS hl => W.lcmp C.1 C.2.1 hd0 (lv_if_le C.1 C.2.1 hd ht (fun c => kt ((lg_cmp_le x y).mp c) (by rw [if_pos ((lg_cmp_le x y).mp c)] at hf; exact hf) H locs ls hP hS hl) (fun c => kf (fun h => c ((lg_cmp_le x y).mpr h)) (by rw [if_neg (fun h => c ((lg_cmp_le x y).mpr h))] at hf; exact hf) H locs ls hP hS hl))
theorem z_goto (C : CX X Γ cc nL own fr lo) {off : Int} {tgt : Nat} (hd : decode cc pc = .ok (.goto off, 3)) (ht : (pc : Int) + off = (tgt : Int)) (k : ZZ X Γ nL Q S tgt lv rest) : ZZ X Γ nL Q S pc lv rest := fun H locs ls hP hS hl => lv_goto C.1 C.2.1 hd ht (k H locs ls hP hS hl)
theorem z_ifnull (C : CX X Γ cc nL own fr lo) {h : Nat} {off : Int} {tgt : Nat} {α : Type} {A B : Option α} {q : α} (hd : decode cc pc = .ok (.ifnull off, 3)) (ht : (pc : Int) + off = (tgt : Int)) (hf : (if h = 0 then A else B) = some q) (kt : h = 0 → A = some q → ZZ X Γ nL Q S tgt lv rest) (kf : ¬ h = 0 → B = some q → ZZ X Γ nL Q S (pc + 3) lv rest) : ZZ X Γ nL Q S pc lv (aR h :: rest) := by
  intro H locs ls hP hS hl
  show W _ _ _ _ _ _ _ _ _ _ _ _ _ _ _ (F0 _ pc ls (rv Γ h :: rest.map (tv Γ)))
  by_cases e : h = 0
  · rw [if_pos e] at hf
    have e2 : rv Γ h = .null := by rw [e]; rfl
    rw [e2]
    exact lv_ifnullN C.1 C.2.1 hd ht (kt e hf H locs ls hP hS hl)
  · rw [if_neg e] at hf
    rw [rv_pos e]
    exact lv_ifnull C.1 C.2.1 hd (kf e hf H locs ls hP hS hl)
theorem z_ifnonnull (C : CX X Γ cc nL own fr lo) {h : Nat} {off : Int} {tgt : Nat} {α : Type} {A B : Option α} {q : α} (hd : decode cc pc = .ok (.ifnonnull off, 3)) (ht : (pc : Int) + off = (tgt : Int)) (hf : (if h = 0 then B else A) = some q) (kt : ¬ h = 0 → A = some q → ZZ X Γ nL Q S tgt lv rest) (kf : h = 0 → B = some q → ZZ X Γ nL Q S (pc + 3) lv rest) : ZZ X Γ nL Q S pc lv (aR h :: rest) := by
  intro H locs ls hP hS hl
  show W _ _ _ _ _ _ _ _ _ _ _ _ _ _ _ (F0 _ pc ls (rv Γ h :: rest.map (tv Γ)))
  by_cases e : h = 0
  · rw [if_pos e] at hf
    have e2 : rv Γ h = .null := by rw [e]; rfl
    rw [e2]
    exact lv_ifnonnullN C.1 C.2.1 hd (kf e hf H locs ls hP hS hl)
  · rw [if_neg e] at hf
    rw [rv_pos e]
    exact lv_ifnonnull C.1 C.2.1 hd ht (kt e hf H locs ls hP hS hl)
theorem z_tin (C : CX X Γ cc nL own fr lo) {dflt l9 h9 : Int} {offs : Array Int} {len : Nat} {x : Int32} {off : Int} {tgt : Nat} (hd : decode cc pc = .ok (.tableswitch dflt l9 h9 offs, len)) (h1 : ¬ x.toInt < l9) (h2 : ¬ h9 < x.toInt) (ho : offs[(x.toInt - l9).toNat]? = some off) (ht : (pc : Int) + off = (tgt : Int)) (k : ZZ X Γ nL Q S tgt lv rest) : ZZ X Γ nL Q S pc lv (aI x :: rest) := fun H locs ls hP hS hl => lv_tableIn C.1 C.2.1 hd h1 h2 ho ht (k H locs ls hP hS hl)
theorem z_tout (C : CX X Γ cc nL own fr lo) {dflt l9 h9 : Int} {offs : Array Int} {len : Nat} {x : Int32} {tgt : Nat} (hd : decode cc pc = .ok (.tableswitch dflt l9 h9 offs, len)) (h : x.toInt < l9 ∨ h9 < x.toInt) (ht : (pc : Int) + dflt = (tgt : Int)) (k : ZZ X Γ nL Q S tgt lv rest) : ZZ X Γ nL Q S pc lv (aI x :: rest) := fun H locs ls hP hS hl => lv_tableOut C.1 C.2.1 hd h ht (k H locs ls hP hS hl)
theorem z_lsw (C : CX X Γ cc nL own fr lo) {dflt : Int} {ps : Array (Int × Int)} {len : Nat} {x : Int32} {off : Int} {tgt : Nat} (hd : decode cc pc = .ok (.lookupswitch dflt ps, len)) (hp : (ps.toList.zip (ps.toList.drop 1)).all (fun (a, next) => a.1 < next.1) = true) (ho : Op.lookupswitch.offset ps.toList dflt x.toInt = off) (ht : (pc : Int) + off = (tgt : Int)) (k : ZZ X Γ nL Q S tgt lv rest) : ZZ X Γ nL Q S pc lv (aI x :: rest) := fun H locs ls hP hS hl => lv_lookup C.1 C.2.1 hd hp ho ht (k H locs ls hP hS hl)
theorem z_ldc (C : CX X Γ cc nL own fr lo) {idx : Nat} {v : Int32} (hw : Cond.constant own idx v ∈ lw_gt) (hd : decode cc pc = .ok (.ldc idx, 2)) (k : ZZ X Γ nL Q S (pc + 2) lv (aI v :: rest)) : ZZ X Γ nL Q S pc lv rest := fun H locs ls hP hS hl => lv_ldc C.1 C.2.1 C.2.2.2.1 (C.2.2.2.2.1 _ hw) hd (k H locs ls hP hS hl)
theorem z_ldcw (C : CX X Γ cc nL own fr lo) {idx : Nat} {v : Int32} (hw : Cond.constant own idx v ∈ lw_gt) (hd : decode cc pc = .ok (.ldc_w idx, 3)) (k : ZZ X Γ nL Q S (pc + 3) lv (aI v :: rest)) : ZZ X Γ nL Q S pc lv rest := fun H locs ls hP hS hl => lv_ldcw C.1 C.2.1 C.2.2.2.1 (C.2.2.2.2.1 _ hw) hd (k H locs ls hP hS hl)
theorem z_ldc2 (C : CX X Γ cc nL own fr lo) {idx : Nat} {v : Int64} (hw : Cond.constantLong own idx v ∈ lw_gt) (hd : decode cc pc = .ok (.ldc2_w idx, 3)) (k : ZZ X Γ nL Q S (pc + 3) lv (aJ v :: rest)) : ZZ X Γ nL Q S pc lv rest := fun H locs ls hP hS hl => lv_ldc2 C.1 C.2.1 C.2.2.2.1 (C.2.2.2.2.1 _ hw) hd (k H locs ls hP hS hl)
theorem z_ldcS (C : CX X Γ cc nL own fr lo) {idx i : Nat} {tx : String} (hs : sref[i]? = some (own, idx, tx)) (hd : decode cc pc = .ok (.ldc idx, 2)) (k : ZZ X Γ nL Q S (pc + 2) lv (aR (301 + i) :: rest)) : ZZ X Γ nL Q S pc lv rest := fun H locs ls hP hS hl => va_ldcS C.1 C.2.1 C.2.2.2.1 (C.2.2.2.2.2.2.2.1.1 i _ hs) hd (by
  have h := k H locs ls hP hS hl
  have e : (aR (301 + i) :: rest).map (tv Γ) = rv Γ (301 + i) :: rest.map (tv Γ) := rfl
  rw [e, rv_pos (by omega)] at h
  exact h)
end ZROWS
