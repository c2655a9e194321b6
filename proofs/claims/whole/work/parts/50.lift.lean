/-! from the machine's numbers to Int: words of the lift -/
theorem inb_iff {i : Int32} {n : Nat} : inb i n = true ↔ 0 ≤ i.toInt ∧ i.toInt < n := by
  constructor
  · intro h
    exact vp_in_iff.mp (inb_vp h)
  · intro h
    have h1 := vp_in_iff.mpr h
    simp only [inb, Bool.and_eq_true, Bool.not_eq_true', decide_eq_false_iff_not, decide_eq_true_eq]
    exact ⟨fun q => h1 (Or.inl q), Nat.not_le.mp fun q => h1 (Or.inr q)⟩
def w32 (x : Int) : Int := Int.bmod x 4294967296
def w64 (x : Int) : Int := Int.bmod x 18446744073709551616
def w8 (x : Int) : Int := Int.bmod x 256
abbrev MZ : Type := (Nat → Nat → Int) × (Nat → Nat → Int) × (Nat → Nat → Nat)
def zI (M : MZ) (h k : Nat) : Int := M.1 h k
def zL (M : MZ) (h k : Nat) : Int := M.2.1 h k
def zR (M : MZ) (h k : Nat) : Nat := M.2.2 h k
def uI (M : MZ) (h k : Nat) (v : Int) : MZ := (fun a b => if a = h ∧ b = k then v else M.1 a b, M.2)
def uL (M : MZ) (h k : Nat) (v : Int) : MZ := (M.1, fun a b => if a = h ∧ b = k then v else M.2.1 a b, M.2.2)
def uR (M : MZ) (h k : Nat) (v : Nat) : MZ := (M.1, M.2.1, fun a b => if a = h ∧ b = k then v else M.2.2 a b)
def zcp (M : MZ) (h0 sp h1 dp n : Nat) : MZ := (fun a b => if a = h1 then va_cpy (M.1 h0) (M.1 h1) sp dp n b else M.1 a b, M.2)
def tz (S : Mem) : MZ := (fun h k => (S.1 h k).toInt, fun h k => (S.2.1 h k).toInt, S.2.2)
def Lf {α β : Type} (t : α → β) (o : Option (α × Mem)) : Option (β × MZ) := o.map fun q => (t q.1, tz q.2)
abbrev tI (x : Int32) : Int := x.toInt
abbrev tJ (x : Int64) : Int := x.toInt
abbrev tR (x : Nat) : Nat := x
abbrev tU (x : Unit) : Unit := x
def zroots (k : Nat) : Int := (rootsf k).toInt
def zstrC (h k : Nat) : Int := (strC h k).toInt
def and32 (a b : Int) : Int := (Int32.ofInt a &&& Int32.ofInt b).toInt
def or32 (a b : Int) : Int := (Int32.ofInt a ||| Int32.ofInt b).toInt
def xor32 (a b : Int) : Int := (Int32.ofInt a ^^^ Int32.ofInt b).toInt
def shl32 (a b : Int) : Int := (Int32.ofInt a <<< Int32.ofInt b).toInt
def shr32 (a b : Int) : Int := (Int32.ofInt a >>> Int32.ofInt b).toInt
def and64 (a b : Int) : Int := (Int64.ofInt a &&& Int64.ofInt b).toInt
def or64 (a b : Int) : Int := (Int64.ofInt a ||| Int64.ofInt b).toInt
def shl64 (a b : Int) : Int := (Int64.ofInt a <<< Int64.ofInt b).toInt
def shr64 (a b : Int) : Int := (Int64.ofInt a >>> Int64.ofInt b).toInt
theorem Lf_none {α β : Type} (t : α → β) : Lf t none = none := rfl
theorem Lf_some {α β : Type} {t : α → β} {v : α} {S : Mem} {v' : β} {M : MZ} (hv : t v = v') (hS : tz S = M) : Lf t (some (v, S)) = some (v', M) := by
  subst hv; subst hS; rfl
theorem Lf_if {α β : Type} {t : α → β} {c c' : Prop} [Decidable c] [Decidable c'] {a b : Option (α × Mem)} {a' b' : Option (β × MZ)} (hc : c ↔ c') (ha : Lf t a = a') (hb : Lf t b = b') : Lf t (if c then a else b) = if c' then a' else b' := by
  by_cases h : c
  · rw [if_pos h, if_pos (hc.mp h), ha]
  · rw [if_neg h, if_neg (fun q => h (hc.mpr q)), hb]
theorem Lf_bind {α β γ δ : Type} {s : γ → δ} {t : α → β} {o : Option (γ × Mem)} {o' : Option (δ × MZ)} {f : γ × Mem → Option (α × Mem)} {f' : δ × MZ → Option (β × MZ)} (h : Lf s o = o') (hk : ∀ q, Lf t (f q) = f' (s q.1, tz q.2)) : Lf t (o.bind f) = o'.bind f' := by
  subst h
  cases o with
  | none => rfl
  | some q => exact hk q
theorem Lf_ok {α β : Type} {t : α → β} {o : Option (α × Mem)} {q' : β × MZ} (h : Lf t o = some q') : ∃ q, o = some q ∧ t q.1 = q'.1 ∧ tz q.2 = q'.2 := by
  cases o with
  | none => cases h
  | some q => exact ⟨q, rfl, by cases h; exact ⟨rfl, rfl⟩⟩
theorem pI_add {a b : Int32} {a' b' : Int} (ha : tI a = a') (hb : tI b = b') : tI (a + b) = w32 (a' + b') := by
  subst ha; subst hb; exact Int32.toInt_add a b
theorem pI_sub {a b : Int32} {a' b' : Int} (ha : tI a = a') (hb : tI b = b') : tI (a - b) = w32 (a' - b') := by
  subst ha; subst hb; exact Int32.toInt_sub a b
theorem pI_mul {a b : Int32} {a' b' : Int} (ha : tI a = a') (hb : tI b = b') : tI (a * b) = w32 (a' * b') := by
  subst ha; subst hb; exact Int32.toInt_mul a b
theorem pI_div {a b : Int32} {a' b' : Int} (ha : tI a = a') (hb : tI b = b') : tI (a / b) = w32 (a'.tdiv b') := by
  subst ha; subst hb; exact Int32.toInt_div a b
theorem pI_mod {a b : Int32} {a' b' : Int} (ha : tI a = a') (hb : tI b = b') : tI (a % b) = a'.tmod b' := by
  subst ha; subst hb; exact Int32.toInt_mod a b
theorem pI_neg {a : Int32} {a' : Int} (ha : tI a = a') : tI (-a) = w32 (-a') := by
  subst ha; exact Int32.toInt_neg a
theorem pJ_add {a b : Int64} {a' b' : Int} (ha : tJ a = a') (hb : tJ b = b') : tJ (a + b) = w64 (a' + b') := by
  subst ha; subst hb; exact Int64.toInt_add a b
theorem pJ_sub {a b : Int64} {a' b' : Int} (ha : tJ a = a') (hb : tJ b = b') : tJ (a - b) = w64 (a' - b') := by
  subst ha; subst hb; exact Int64.toInt_sub a b
theorem pJ_mul {a b : Int64} {a' b' : Int} (ha : tJ a = a') (hb : tJ b = b') : tJ (a * b) = w64 (a' * b') := by
  subst ha; subst hb; exact Int64.toInt_mul a b
theorem pJ_div {a b : Int64} {a' b' : Int} (ha : tJ a = a') (hb : tJ b = b') : tJ (a / b) = w64 (a'.tdiv b') := by
  subst ha; subst hb; exact Int64.toInt_div a b
theorem pJ_neg {a : Int64} {a' : Int} (ha : tJ a = a') : tJ (-a) = w64 (-a') := by
  subst ha; exact Int64.toInt_neg a
theorem pI_and {a b : Int32} {a' b' : Int} (ha : tI a = a') (hb : tI b = b') : tI (a &&& b) = and32 a' b' := by
  subst ha; subst hb; unfold and32; rw [Int32.ofInt_toInt, Int32.ofInt_toInt]
theorem pI_or {a b : Int32} {a' b' : Int} (ha : tI a = a') (hb : tI b = b') : tI (a ||| b) = or32 a' b' := by
  subst ha; subst hb; unfold or32; rw [Int32.ofInt_toInt, Int32.ofInt_toInt]
theorem pI_xor {a b : Int32} {a' b' : Int} (ha : tI a = a') (hb : tI b = b') : tI (a ^^^ b) = xor32 a' b' := by
  subst ha; subst hb; unfold xor32; rw [Int32.ofInt_toInt, Int32.ofInt_toInt]
theorem pI_shl {a b : Int32} {a' b' : Int} (ha : tI a = a') (hb : tI b = b') : tI (a <<< b) = shl32 a' b' := by
  subst ha; subst hb; unfold shl32; rw [Int32.ofInt_toInt, Int32.ofInt_toInt]
theorem pI_shr {a b : Int32} {a' b' : Int} (ha : tI a = a') (hb : tI b = b') : tI (a >>> b) = shr32 a' b' := by
  subst ha; subst hb; unfold shr32; rw [Int32.ofInt_toInt, Int32.ofInt_toInt]
theorem pJ_and {a b : Int64} {a' b' : Int} (ha : tJ a = a') (hb : tJ b = b') : tJ (a &&& b) = and64 a' b' := by
  subst ha; subst hb; unfold and64; rw [Int64.ofInt_toInt, Int64.ofInt_toInt]
theorem pJ_or {a b : Int64} {a' b' : Int} (ha : tJ a = a') (hb : tJ b = b') : tJ (a ||| b) = or64 a' b' := by
  subst ha; subst hb; unfold or64; rw [Int64.ofInt_toInt, Int64.ofInt_toInt]
theorem pJ_shl {a b : Int64} {a' b' : Int} (ha : tJ a = a') (hb : tJ b = b') : tJ (a <<< b) = shl64 a' b' := by
  subst ha; subst hb; unfold shl64; rw [Int64.ofInt_toInt, Int64.ofInt_toInt]
theorem pJ_shr {a b : Int64} {a' b' : Int} (ha : tJ a = a') (hb : tJ b = b') : tJ (a >>> b) = shr64 a' b' := by
  subst ha; subst hb; unfold shr64; rw [Int64.ofInt_toInt, Int64.ofInt_toInt]
theorem pJ_of {a : Int32} {a' : Int} (ha : tI a = a') : tJ a.toInt64 = a' := by
  subst ha; exact Int32.toInt_toInt64 a
theorem pI_of {a : Int64} {a' : Int} (ha : tJ a = a') : tI a.toInt32 = w32 a' := by
  subst ha; exact Int64.toInt_toInt32 a
theorem pI_w8 {a : Int32} {a' : Int} (ha : tI a = a') : tI a.toInt8.toInt32 = w8 a' := by
  subst ha
  show a.toInt8.toInt32.toInt = _
  rw [Int8.toInt_toInt32, Int32.toInt_toInt8]
  rfl
theorem pN_of {a : Int32} {a' : Int} (ha : tI a = a') : a.toNatClampNeg = a'.toNat := by
  subst ha; rfl
theorem pI_nat (n : Nat) : tI (Int32.ofNat n) = w32 n := by
  show (Int32.ofNat n).toInt = _
  rw [Int32.toInt_ofNat']
  rfl
theorem pI_roots {k k' : Nat} (hk : k = k') : tI (rootsf k) = zroots k' := by
  subst hk; rfl
theorem pI_strC {h h' k k' : Nat} (hh : h = h') (hk : k = k') : tI (strC h k) = zstrC h' k' := by
  subst hh; subst hk; rfl
theorem pI_g {S : Mem} {M : MZ} {h h' k k' : Nat} (hS : tz S = M) (hh : h = h') (hk : k = k') : tI (gI S h k) = zI M h' k' := by
  subst hS; subst hh; subst hk; rfl
theorem pJ_g {S : Mem} {M : MZ} {h h' k k' : Nat} (hS : tz S = M) (hh : h = h') (hk : k = k') : tJ (gL S h k) = zL M h' k' := by
  subst hS; subst hh; subst hk; rfl
theorem pR_g {S : Mem} {M : MZ} {h h' k k' : Nat} (hS : tz S = M) (hh : h = h') (hk : k = k') : gR S h k = zR M h' k' := by
  subst hS; subst hh; subst hk; rfl
theorem pM_I {S : Mem} {M : MZ} {h h' k k' : Nat} {v : Int32} {v' : Int} (hS : tz S = M) (hh : h = h') (hk : k = k') (hv : tI v = v') : tz (sI S h k v) = uI M h' k' v' := by
  subst hS; subst hh; subst hk; subst hv
  unfold tz sI uI
  refine Prod.ext ?_ rfl
  funext a b
  show (if a = h ∧ b = k then v else S.1 a b).toInt = if a = h ∧ b = k then v.toInt else (S.1 a b).toInt
  by_cases c : a = h ∧ b = k
  · rw [if_pos c, if_pos c]
  · rw [if_neg c, if_neg c]
theorem pM_L {S : Mem} {M : MZ} {h h' k k' : Nat} {v : Int64} {v' : Int} (hS : tz S = M) (hh : h = h') (hk : k = k') (hv : tJ v = v') : tz (sL S h k v) = uL M h' k' v' := by
  subst hS; subst hh; subst hk; subst hv
  unfold tz sL uL
  refine Prod.ext rfl (Prod.ext ?_ rfl)
  funext a b
  show (if a = h ∧ b = k then v else S.2.1 a b).toInt = if a = h ∧ b = k then v.toInt else (S.2.1 a b).toInt
  by_cases c : a = h ∧ b = k
  · rw [if_pos c, if_pos c]
  · rw [if_neg c, if_neg c]
theorem pM_R {S : Mem} {M : MZ} {h h' k k' v v' : Nat} (hS : tz S = M) (hh : h = h') (hk : k = k') (hv : v = v') : tz (sR S h k v) = uR M h' k' v' := by
  subst hS; subst hh; subst hk; subst hv; rfl
theorem pM_cp {S : Mem} {M : MZ} {h h' a a' i i' b b' n n' : Nat} (hS : tz S = M) (hh : h = h') (ha : a = a') (hi : i = i') (hb : b = b') (hn : n = n') : tz (cpI S h a i b n) = zcp M h' a' i' b' n' := by
  subst hS; subst hh; subst ha; subst hi; subst hb; subst hn
  unfold tz cpI zcp
  refine Prod.ext ?_ rfl
  funext x y
  show (if x = i then va_cpy (S.1 h) (S.1 i) a b n y else S.1 x y).toInt = if x = i then va_cpy (fun k => (S.1 h k).toInt) (fun k => (S.1 i k).toInt) a b n y else (S.1 x y).toInt
  unfold va_cpy
  by_cases c : x = i
  · rw [if_pos c, if_pos c]
    by_cases d : b ≤ y ∧ y < b + n
    · rw [if_pos d, if_pos d]
    · rw [if_neg d, if_neg d]
  · rw [if_neg c, if_neg c]
theorem cI_lt {a b : Int32} {a' b' : Int} (ha : tI a = a') (hb : tI b = b') : a < b ↔ a' < b' := by
  subst ha; subst hb; exact Int32.lt_iff_toInt_lt
theorem cI_le {a b : Int32} {a' b' : Int} (ha : tI a = a') (hb : tI b = b') : a ≤ b ↔ a' ≤ b' := by
  subst ha; subst hb; exact Int32.le_iff_toInt_le
theorem cI_eq {a b : Int32} {a' b' : Int} (ha : tI a = a') (hb : tI b = b') : a = b ↔ a' = b' := by
  subst ha; subst hb; exact Int32.toInt_inj.symm
theorem cJ_lt {a b : Int64} {a' b' : Int} (ha : tJ a = a') (hb : tJ b = b') : a < b ↔ a' < b' := by
  subst ha; subst hb; exact Int64.lt_iff_toInt_lt
theorem cJ_le {a b : Int64} {a' b' : Int} (ha : tJ a = a') (hb : tJ b = b') : a ≤ b ↔ a' ≤ b' := by
  subst ha; subst hb; exact Int64.le_iff_toInt_le
theorem cJ_eq {a b : Int64} {a' b' : Int} (ha : tJ a = a') (hb : tJ b = b') : a = b ↔ a' = b' := by
  subst ha; subst hb; exact Int64.toInt_inj.symm
theorem cR_eq {a b a' b' : Nat} (ha : a = a') (hb : b = b') : a = b ↔ a' = b' := by
  subst ha; subst hb; rfl
theorem c_kd {a a' : Nat} {p : Nat × Nat} (ha : a = a') : kd a = p ↔ kd a' = p := by
  subst ha; rfl
theorem c_isS {a a' : Nat} (ha : a = a') : isS a = true ↔ isS a' = true := by
  subst ha; rfl
theorem c_inb {a : Int32} {a' : Int} {n n' : Nat} (ha : tI a = a') (hn : n = n') : inb a n = true ↔ (0 ≤ a' ∧ a' < n') := by
  subst ha; subst hn; exact inb_iff
theorem c_isB {a : Int32} {a' : Int} (ha : tI a = a') : isB a = true ↔ (a' = 0 ∨ a' = 1) := by
  subst ha
  unfold isB
  rw [Bool.or_eq_true, decide_eq_true_eq, decide_eq_true_eq, ← Int32.toInt_inj, ← Int32.toInt_inj]
  exact Iff.rfl
theorem pR_add {a a' b b' : Nat} (ha : a = a') (hb : b = b') : a + b = a' + b' := by
  subst ha; subst hb; rfl
theorem pR_mul {a a' b b' : Nat} (ha : a = a') (hb : b = b') : a * b = a' * b' := by
  subst ha; subst hb; rfl
