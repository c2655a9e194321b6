/-! memory: what the cells hold, by handles (0: null); a handle's kind is fixed -/
abbrev AV : Type := Int32 ⊕ (Int64 ⊕ Nat)
abbrev aI (x : Int32) : AV := Sum.inl x
abbrev aJ (x : Int64) : AV := Sum.inr (Sum.inl x)
abbrev aR (h : Nat) : AV := Sum.inr (Sum.inr h)
def cat : AV → Nat
  | .inr (.inl _) => 2
  | _ => 1
abbrev Mem : Type := (Nat → Nat → Int32) × (Nat → Nat → Int64) × (Nat → Nat → Nat)
def gI (S : Mem) (h k : Nat) : Int32 := S.1 h k
def gL (S : Mem) (h k : Nat) : Int64 := S.2.1 h k
def gR (S : Mem) (h k : Nat) : Nat := S.2.2 h k
def sI (S : Mem) (h k : Nat) (v : Int32) : Mem := (fun a b => if a = h ∧ b = k then v else S.1 a b, S.2)
def sL (S : Mem) (h k : Nat) (v : Int64) : Mem := (S.1, fun a b => if a = h ∧ b = k then v else S.2.1 a b, S.2.2)
def sR (S : Mem) (h k : Nat) (v : Nat) : Mem := (S.1, S.2.1, fun a b => if a = h ∧ b = k then v else S.2.2 a b)
/-- System.arraycopy of ints -/
def cpI (S : Mem) (h0 sp h1 dp n : Nat) : Mem := (fun a b => if a = h1 then va_cpy (S.1 h0) (S.1 h1) sp dp n b else S.1 a b, S.2)
def inb (i : Int32) (n : Nat) : Bool := !(decide (i < 0)) && decide (i.toNatClampNeg < n)
def isB (x : Int32) : Bool := decide (x = 0) || decide (x = 1)
theorem inb_vp {i : Int32} {n : Nat} (h : inb i n = true) : vp_in i n := by
  simp [inb] at h
  intro q
  rcases q with q | q
  · exact absurd q (by simpa using h.1)
  · omega
theorem gd {c : Prop} [Decidable c] {α : Type} {A : Option α} {q : α} (h : (if c then A else none) = some q) : c ∧ A = some q := by
  by_cases hc : c
  · rw [if_pos hc] at h; exact ⟨hc, h⟩
  · rw [if_neg hc] at h; cases h
theorem gdn {c : Prop} [Decidable c] {α : Type} {A : Option α} {q : α} (h : (if c then none else A) = some q) : ¬ c ∧ A = some q := by
  by_cases hc : c
  · rw [if_pos hc] at h; cases h
  · rw [if_neg hc] at h; exact ⟨hc, h⟩
theorem bd {α β : Type} {o : Option α} {f : α → Option β} {r : β} (h : o.bind f = some r) : ∃ q, o = some q ∧ f q = some r := by
  cases o with
  | none => cases h
  | some q => exact ⟨q, rfl, h⟩
def kdl : List (Nat × Nat) := [(99, 0), (10, 8), (8, 7), (12, 400), (9, 14), (2, 2), (5, 5), (18, 40), (13, 4), (4, 13), (13, 4), (13, 4), (13, 4), (15, 5), (0, 9), (13, 3), (13, 3), (13, 3), (14, 3), (13, 3), (11, 55), (14, 41), (13, 25), (14, 258), (14, 516), (12, 400), (13, 35), (13, 20), (13, 40), (13, 40), (13, 160), (13, 40), (13, 40), (14, 7), (13, 4), (13, 4), (13, 4), (14, 4), (7, 10), (7, 10), (7, 10), (7, 10), (7, 10), (7, 10), (7, 10), (7, 10), (7, 10), (7, 10), (7, 10), (7, 10), (7, 10), (7, 10), (7, 10), (7, 10), (7, 10), (7, 10), (7, 10), (7, 10), (7, 10), (7, 10), (7, 10), (7, 10), (7, 10), (7, 10), (7, 10), (7, 10), (7, 10), (7, 10), (7, 10), (7, 10), (7, 10), (7, 10), (7, 10), (7, 10), (7, 10), (7, 10), (7, 10), (7, 10), (1, 9), (13, 20), (16, 5), (17, 12), (3, 12), (13, 2), (13, 2), (13, 8), (13, 8), (3, 12), (13, 2), (13, 2), (13, 8), (13, 8), (3, 12), (13, 2), (13, 2), (13, 8), (13, 8), (3, 12), (13, 2), (13, 2), (13, 8), (13, 8), (3, 12), (13, 2), (13, 2), (13, 8), (13, 8), (6, 8), (14, 2), (14, 2), (6, 8), (14, 2), (14, 2), (6, 8), (14, 2), (14, 2), (6, 8), (14, 2), (14, 2), (6, 8), (14, 2), (14, 2), (6, 8), (14, 2), (14, 2), (6, 8), (14, 2), (14, 2), (6, 8), (14, 2), (14, 2), (6, 8), (14, 2), (14, 2), (6, 8), (14, 2), (14, 2), (6, 8), (14, 2), (14, 2), (6, 8), (14, 2), (14, 2), (1, 9), (13, 20), (16, 5), (17, 12), (3, 12), (13, 2), (13, 2), (13, 8), (13, 8), (3, 12), (13, 2), (13, 2), (13, 8), (13, 8), (3, 12), (13, 2), (13, 2), (13, 8), (13, 8), (3, 12), (13, 2), (13, 2), (13, 8), (13, 8), (3, 12), (13, 2), (13, 2), (13, 8), (13, 8), (6, 8), (14, 2), (14, 2), (6, 8), (14, 2), (14, 2), (6, 8), (14, 2), (14, 2), (6, 8), (14, 2), (14, 2), (6, 8), (14, 2), (14, 2), (6, 8), (14, 2), (14, 2), (6, 8), (14, 2), (14, 2), (6, 8), (14, 2), (14, 2), (6, 8), (14, 2), (14, 2), (6, 8), (14, 2), (14, 2), (6, 8), (14, 2), (14, 2), (6, 8), (14, 2), (14, 2)]
def kd (h : Nat) : Nat × Nat := kdl.getD h (99, 0)
def fxl : List (List (Nat × Nat)) := [[(1, 0), (0, 0), (0, 0), (2, 4), (2, 15), (2, 16), (2, 17), (2, 18), (2, 19)], [(0, 0), (0, 0), (0, 0), (0, 0), (0, 0), (0, 0), (3, 1), (3, 2), (3, 3)], [(2, 2), (2, 143)], [(0, 0), (0, 0), (0, 0), (0, 0), (0, 0), (0, 0), (0, 0), (0, 0), (3, 1), (3, 2), (3, 3), (3, 4)], [(0, 0), (0, 0), (2, 78), (2, 6), (2, 4), (0, 0), (0, 0), (0, 0), (1, 0), (2, 10), (2, 11), (2, 12), (2, 13)], [(0, 0), (2, 2), (2, 7), (2, 8), (0, 0)], [(0, 0), (0, 0), (0, 0), (0, 0), (0, 0), (0, 0), (3, 1), (3, 2)], [(0, 0), (0, 0), (0, 0), (0, 0), (0, 0), (0, 0), (0, 0), (0, 0), (0, 0), (0, 0)], [(0, 0), (0, 0), (0, 0), (0, 0), (0, 0), (0, 0), (2, 3)], [(4, 0), (4, 0), (0, 0), (0, 0), (0, 0), (0, 0), (0, 0), (0, 0), (0, 0), (0, 0), (1, 0), (1, 0), (1, 0), (1, 0)], [(2, 2), (2, 78), (2, 143), (2, 5), (2, 6), (2, 9), (2, 4), (2, 14)], [(2, 21), (0, 0), (0, 0), (0, 0), (2, 22), (2, 23), (2, 24), (2, 25), (0, 0), (0, 0), (0, 0), (0, 0), (1, 0), (1, 0), (1, 0), (1, 0), (1, 0), (1, 0), (1, 0), (1, 0), (1, 0), (1, 0), (1, 0), (1, 0), (0, 0), (0, 0), (0, 0), (2, 26), (2, 27), (1, 0), (1, 0), (1, 0), (1, 0), (0, 0), (0, 0), (2, 28), (2, 29), (2, 30), (2, 31), (2, 32), (2, 33), (2, 34), (0, 0), (0, 0), (0, 0), (1, 0), (0, 0), (2, 35), (2, 36), (2, 37), (0, 0), (1, 0), (0, 0), (1, 0), (0, 0)]]
def fx (ci k : Nat) : Nat × Nat := (fxl.getD ci []).getD k (0, 0)
abbrev GG : Type := va_G × (Nat → Nat) × (Nat → ClassId)
def rfo (Γ : GG) (h : Nat) : Option Nat := if h = 0 then none else some (Γ.2.1 h)
def rv (Γ : GG) (h : Nat) : Value := va_rf (rfo Γ h)
def tv (Γ : GG) : AV → Value
  | .inl x => .int x
  | .inr (.inl x) => .long x
  | .inr (.inr h) => rv Γ h
theorem rv_cat (Γ : GG) (h : Nat) : (rv Γ h).category = 1 := by
  unfold rv rfo
  split <;> rfl
theorem tv_cat (Γ : GG) (a : AV) : (tv Γ a).category = cat a := by
  rcases a with x | x | h
  · rfl
  · rfl
  · exact rv_cat Γ h
theorem rv_pos {Γ : GG} {h : Nat} (hp : h ≠ 0) : rv Γ h = .ref (Γ.2.1 h) := by
  unfold rv rfo
  rw [if_neg hp]
  rfl
/-- what a field of an object holds -/
def fv (Γ : GG) (S : Mem) (ci h k : Nat) : Value := match fx ci k with
  | (0, _) => .int (gI S h k)
  | (1, _) => .long (gL S h k)
  | (2, c) => rv Γ c
  | (3, o) => rv Γ (h + o)
  | (_, _) => rv Γ (gR S h k)
def ent (Γ : GG) (S : Mem) (h : Nat) : va_E :=
  if (kd h).1 < 12 then .inr ((kd h).1, (List.range (kd h).2).map (fv Γ S (kd h).1 h))
  else if (kd h).1 = 14 then .inl (Γ.2.2 2, (kd h).2, .inr (.inl (gL S h)))
  else if (kd h).1 = 16 then .inl (Γ.2.2 4, (kd h).2, .inr (.inr (.inr (.inr (fun i => rfo Γ (h + 2 + 5 * i))))))
  else if (kd h).1 = 17 then .inl (Γ.2.2 5, (kd h).2, .inr (.inr (.inr (.inr (fun i => rfo Γ (gR S h i))))))
  else if (kd h).1 = 18 then .inl (Γ.2.2 6, (kd h).2, .inr (.inr (.inr (.inr (fun i => rfo Γ (h + 31 + i))))))
  else .inl (Γ.2.2 ((kd h).1 - 12), (kd h).2, .inl (gI S h))
def wl (Γ : GG) (S : Mem) : va_W := (List.range 207).map (fun i => (Γ.2.1 (i + 1), ent Γ S (i + 1)))
abbrev wty (Γ : GG) : List (ClassId × FieldType) := [(Γ.2.2 0, .byte), (Γ.2.2 1, .int), (Γ.2.2 2, .long), (Γ.2.2 3, .boolean), (Γ.2.2 4, .object "TickPools$Pool"), (Γ.2.2 5, .object "TickPools$Stake"), (Γ.2.2 6, .object "TickPools$Step")]
def AD (Γ : GG) : Nat → Prop := fun q => ∃ h : Nat, h < 207 ∧ q = Γ.2.1 (h + 1)
def Inj (Γ : GG) : Prop := ∀ i j : Nat, i < 207 → j < 207 → Γ.2.1 (i + 1) = Γ.2.1 (j + 1) → i = j
theorem kd_in {h : Nat} (hk : (kd h).1 < 19) : h ≠ 0 ∧ h - 1 < 207 ∧ h - 1 + 1 = h := by
  have h0 : h ≠ 0 := by
    intro e
    subst e
    exact absurd hk (by decide)
  have h1 : h < 207 + 1 := by
    rcases Nat.lt_or_ge h (207 + 1) with q | q
    · exact q
    · have e : kd h = (99, 0) := by
        unfold kd
        rw [List.getD_eq_getElem?_getD, List.getElem?_eq_none (by have e : kdl.length = 207 + 1 := by decide +kernel
                                                                  rw [e]; exact q)]
        rfl
      rw [e] at hk
      exact absurd hk (by decide)
  exact ⟨h0, by omega, by omega⟩
theorem wl_at (Γ : GG) (S : Mem) {h : Nat} (hk : (kd h).1 < 19) : (wl Γ S)[h - 1]? = some (Γ.2.1 h, ent Γ S h) := by
  obtain ⟨h0, h1, h2⟩ := kd_in hk
  unfold wl
  rw [List.getElem?_map, List.getElem?_range h1]
  simp only [Option.map_some, h2]
theorem wl_D (Γ : GG) (hI : Inj Γ) (S : Mem) : va_D (AD Γ) (wl Γ S) := by
  have key : ∀ (i : Nat) (p : Nat × va_E), (wl Γ S)[i]? = some p → i < 207 ∧ p.1 = Γ.2.1 (i + 1) := by
    intro i p hp
    unfold wl at hp
    rw [List.getElem?_map] at hp
    rcases Nat.lt_or_ge i 207 with q | q
    · rw [List.getElem?_range q] at hp
      cases hp
      exact ⟨q, rfl⟩
    · rw [List.getElem?_eq_none (by rw [List.length_range]; exact q)] at hp
      cases hp
  refine ⟨fun i j p q hp hq e => ?_, fun k q hq => ?_⟩
  · obtain ⟨a1, a2⟩ := key i p hp
    obtain ⟨b1, b2⟩ := key j q hq
    exact hI i j a1 b1 (by rw [← a2, ← b2]; exact e)
  · obtain ⟨a1, a2⟩ := key k q hq
    exact ⟨k, a1, a2⟩
theorem wl_set (Γ : GG) {S S' : Mem} {h : Nat} {x : va_E} (hk : (kd h).1 < 19) (hx : x = ent Γ S' h) (he : ∀ j, j ≠ h → ent Γ S' j = ent Γ S j) : (wl Γ S).set (h - 1) (Γ.2.1 h, x) = wl Γ S' := by
  obtain ⟨h0, h1, h2⟩ := kd_in hk
  subst hx
  apply List.ext_getElem?
  intro i
  rw [List.getElem?_set]
  unfold wl
  rw [List.length_map, List.length_range, List.getElem?_map, List.getElem?_map]
  by_cases e : h - 1 = i
  · subst e
    rw [if_pos rfl, if_pos h1, List.getElem?_range h1, Option.map_some, h2]
  · rw [if_neg e]
    rcases Nat.lt_or_ge i 207 with q | q
    · rw [List.getElem?_range q, Option.map_some, Option.map_some, he (i + 1) (by omega)]
    · rw [List.getElem?_eq_none (by rw [List.length_range]; exact q)]
      rfl
theorem ent_cg (Γ : GG) {S S' : Mem} {h : Nat} (h1 : ∀ k, gI S' h k = gI S h k) (h2 : ∀ k, gL S' h k = gL S h k) (h3 : ∀ k, gR S' h k = gR S h k) : ent Γ S' h = ent Γ S h := by
  have e1 : gI S' h = gI S h := funext h1
  have e2 : gL S' h = gL S h := funext h2
  have e4 : fv Γ S' (kd h).1 h = fv Γ S (kd h).1 h := by
    funext k
    unfold fv
    rw [h1, h2, h3]
  unfold ent
  rw [e1, e2, e4]
  simp only [h3]
theorem ent_obj (Γ : GG) (S : Mem) {h ci n : Nat} (hk : kd h = (ci, n)) (hc : ci < 12) : ent Γ S h = .inr (ci, (List.range n).map (fv Γ S ci h)) := by
  unfold ent
  rw [hk]
  simp only [hc, if_true]
theorem ent_int (Γ : GG) (S : Mem) {h ci n : Nat} (hk : kd h = (ci, n)) (hc : ci = 12 ∨ ci = 13 ∨ ci = 15) : ent Γ S h = .inl (Γ.2.2 (ci - 12), n, .inl (gI S h)) := by
  unfold ent
  rw [hk]
  rcases hc with rfl | rfl | rfl <;> simp
theorem ent_long (Γ : GG) (S : Mem) {h n : Nat} (hk : kd h = (14, n)) : ent Γ S h = .inl (Γ.2.2 2, n, .inr (.inl (gL S h))) := by
  unfold ent
  rw [hk]
  simp
theorem ent_pools (Γ : GG) (S : Mem) {h n : Nat} (hk : kd h = (16, n)) : ent Γ S h = .inl (Γ.2.2 4, n, .inr (.inr (.inr (.inr (fun i => rfo Γ (h + 2 + 5 * i)))))) := by
  unfold ent
  rw [hk]
  simp
theorem ent_stakes (Γ : GG) (S : Mem) {h n : Nat} (hk : kd h = (17, n)) : ent Γ S h = .inl (Γ.2.2 5, n, .inr (.inr (.inr (.inr (fun i => rfo Γ (gR S h i)))))) := by
  unfold ent
  rw [hk]
  simp
theorem ent_steps (Γ : GG) (S : Mem) {h n : Nat} (hk : kd h = (18, n)) : ent Γ S h = .inl (Γ.2.2 6, n, .inr (.inr (.inr (.inr (fun i => rfo Γ (h + 31 + i)))))) := by
  unfold ent
  rw [hk]
  simp
theorem sI_ne (Γ : GG) (S : Mem) {h j k : Nat} {v : Int32} (e : j ≠ h) : ent Γ (sI S h k v) j = ent Γ S j := ent_cg Γ (fun i => by simp [gI, sI, e]) (fun _ => rfl) (fun _ => rfl)
theorem sL_ne (Γ : GG) (S : Mem) {h j k : Nat} {v : Int64} (e : j ≠ h) : ent Γ (sL S h k v) j = ent Γ S j := ent_cg Γ (fun _ => rfl) (fun i => by simp [gL, sL, e]) (fun _ => rfl)
theorem sR_ne (Γ : GG) (S : Mem) {h j k v : Nat} (e : j ≠ h) : ent Γ (sR S h k v) j = ent Γ S j := ent_cg Γ (fun _ => rfl) (fun _ => rfl) (fun i => by simp [gR, sR, e])
theorem cpI_ne (Γ : GG) (S : Mem) {h0 sp h dp n j : Nat} (e : j ≠ h) : ent Γ (cpI S h0 sp h dp n) j = ent Γ S j := ent_cg Γ (fun i => by simp [gI, cpI, e]) (fun _ => rfl) (fun _ => rfl)
theorem range_set {α : Type} (n k : Nat) (f g : Nat → α) (v : α) (hv : g k = v) (ho : ∀ j, j ≠ k → g j = f j) : ((List.range n).map f).set k v = (List.range n).map g := by
  apply List.ext_getElem?
  intro i
  rw [List.getElem?_set, List.length_map, List.length_range, List.getElem?_map, List.getElem?_map]
  by_cases e : k = i
  · subst e
    rw [if_pos rfl]
    by_cases q : k < n
    · rw [if_pos q, List.getElem?_range q, Option.map_some, hv]
    · rw [if_neg q, List.getElem?_eq_none (by rw [List.length_range]; omega)]
      rfl
  · rw [if_neg e]
    by_cases q : i < n
    · rw [List.getElem?_range q, Option.map_some, Option.map_some, ho i (fun h => e h.symm)]
    · rw [List.getElem?_eq_none (by rw [List.length_range]; omega)]
      rfl
theorem fv_int {Γ : GG} {S : Mem} {ci h k : Nat} (hx : fx ci k = (0, 0)) : fv Γ S ci h k = .int (gI S h k) := by unfold fv; rw [hx]; rfl
theorem fv_long {Γ : GG} {S : Mem} {ci h k : Nat} (hx : fx ci k = (1, 0)) : fv Γ S ci h k = .long (gL S h k) := by unfold fv; rw [hx]; rfl
theorem fv_const {Γ : GG} {S : Mem} {ci h k c : Nat} (hx : fx ci k = (2, c)) : fv Γ S ci h k = rv Γ c := by unfold fv; rw [hx]; rfl
theorem fv_rel {Γ : GG} {S : Mem} {ci h k o : Nat} (hx : fx ci k = (3, o)) : fv Γ S ci h k = rv Γ (h + o) := by unfold fv; rw [hx]; rfl
theorem fv_mut {Γ : GG} {S : Mem} {ci h k : Nat} (hx : fx ci k = (4, 0)) : fv Γ S ci h k = rv Γ (gR S h k) := by unfold fv; rw [hx]; rfl
theorem fv_cg {Γ : GG} {S S' : Mem} {ci h k : Nat} (h1 : gI S' h k = gI S h k) (h2 : gL S' h k = gL S h k) (h3 : gR S' h k = gR S h k) : fv Γ S' ci h k = fv Γ S ci h k := by
  unfold fv
  rw [h1, h2, h3]
def rootsl : List Int32 := [38554, 40436, 42409, 44479, 46650, 48927, 51315, 53820, 56447, 59202, 62092, 65122, 68301, 71635, 75131, 78798, 82644, 86678, 90909, 95346, 100000, 104880, 110000, 115368, 121000, 126905, 133100, 139596, 146410, 153556, 161051, 168911, 177156, 185802, 194871, 204383, 214358, 224821, 235794, 247303, 259374]
def rootsf (j : Nat) : Int32 := rootsl.getD j 0
def slen : List Nat := [6, 4, 5, 2, 3, 3, 4, 5, 4, 5, 3, 3]
def sbyt : List (List Int32) := [[109, 97, 114, 107, 101, 116], [112, 111, 111, 108], [112, 117, 114, 115, 101], [105, 110], [111, 117, 116], [97, 100, 100], [100, 114, 111, 112], [108, 101, 97, 115, 116], [108, 101, 110, 100], [116, 105, 109, 101, 115], [97, 108, 108], [103, 111, 116]]
def sref : List (String × Nat × String) := [("TickPools$MarketReader", 47, "market"), ("TickPools$MarketReader", 52, "pool"), ("TickPools$MarketReader", 54, "purse"), ("TickPools$Script", 105, "in"), ("TickPools$Script", 111, "out"), ("TickPools$Script", 113, "add"), ("TickPools$Script", 115, "drop"), ("TickPools$Script", 117, "least"), ("TickPools$Script", 119, "lend"), ("TickPools$Script", 121, "times"), ("TickPools$Script", 155, "all"), ("TickPools$Script", 157, "got")]
def nestw : List Cond := [(.methodLinkNest "TickPools" 28 yX10_init "TickPools" : Cond), (.methodLinkNest "TickPools$Script" 21 yX8_init "TickPools" : Cond), (.methodLinkNest "TickPools$Market" 61 yX11_isSide "TickPools" : Cond), (.methodLinkNest "TickPools$Runner" 153 yX11_lastTick "TickPools" : Cond), (.methodLinkNest "TickPools$Trade" 83 yX11_isSide "TickPools" : Cond), (.methodLinkNest "TickPools$Pool" 65 yX11_isSide "TickPools" : Cond), (.methodLinkNest "TickPools$Trade" 56 yX11_lastTick "TickPools" : Cond), (.methodLinkNest "TickPools$Market" 154 yX11_isTick "TickPools" : Cond), (.methodLinkNest "TickPools$Finder" 78 yX11_lastTick "TickPools" : Cond)]
/-- what is only read: the roots, the words, the JDK's statics -/
def RO (Γ : GG) (A : Nat → Prop) (U : State) (H : Heap) : Prop :=
  va_Z "TickPools$Curve" "ROOTS" "[I" (.ref (Γ.2.1 400)) A U H ∧ va_T .int (Γ.2.1 400) 41 (fun j => .int (rootsf j)) A U H ∧
  vk_S 12 slen sbyt (fun i => Γ.2.1 (301 + i)) (fun i => Γ.2.1 (321 + i)) A U H ∧
  va_Z "java/lang/String" "COMPACT_STRINGS" "Z" (.int 1) A U H ∧ ∃ h : Nat, va_Z "jdk/internal/util/Preconditions" "SIOOBE_FORMATTER" "Ljava/util/function/BiFunction;" (rv Γ h) A U H
def RW (Γ : GG) (U : State) : Prop := (∀ (i : Nat) (q : String × Nat × String), sref[i]? = some q → vk_R q.1 q.2.1 q.2.2 (Γ.2.1 (301 + i)) U) ∧ ∀ w ∈ nestw, va_Nw w U
theorem RO.moved {Γ : GG} {A : Nat → Prop} {u U : State} {H : Heap} (hvm : u.vm.Alike U.vm) (h : RO Γ A u H) : RO Γ A U H := ⟨h.1.moved hvm, h.2.1.moved hvm, h.2.2.1.moved hvm, h.2.2.2.1.moved hvm, h.2.2.2.2.elim fun q hq => ⟨q, hq.moved hvm⟩⟩
theorem RO.kept {Γ : GG} {A : Nat → Prop} {U : State} {H H1 : Heap} (h : RO Γ A U H) (hq : ∀ a : Nat, a < H.size → ¬ A a → H1[a]? = H[a]?) : RO Γ A U H1 := ⟨h.1.kept hq, h.2.1.kept hq, h.2.2.1.kept hq, h.2.2.2.1.kept hq, h.2.2.2.2.elim fun q h9 => ⟨q, h9.kept hq⟩⟩
theorem RO.narrow {Γ : GG} {A B : Nat → Prop} {U : State} {H : Heap} (h : RO Γ A U H) (hq : ∀ q, B q → A q) : RO Γ B U H := ⟨h.1.narrow hq, h.2.1.narrow hq, h.2.2.1.narrow hq, h.2.2.2.1.narrow hq, h.2.2.2.2.elim fun q h9 => ⟨q, h9.narrow hq⟩⟩
theorem RW.warm {Γ : GG} {s U : State} (hW : s.WarmedH U.vm) (h : RW Γ s) : RW Γ U := by
  refine ⟨fun i q hq => (h.1 i q hq).warm hW, ?_⟩
  have h2 := h.2
  unfold nestw at h2 ⊢
  simp only [List.forall_mem_cons] at h2 ⊢
  obtain ⟨a1, a2, a3, a4, a5, a6, a7, a8, a9, -⟩ := h2
  exact ⟨a1.warmM hW, a2.warmM hW, a3.warmM hW, a4.warmM hW, a5.warmM hW, a6.warmM hW, a7.warmM hW, a8.warmM hW, a9.warmM hW, fun _ h => absurd h List.not_mem_nil⟩
theorem RW.same {Γ : GG} {u U : State} (hv : U.vm = u.vm) (h : RW Γ u) : RW Γ U := by
  refine ⟨fun i q hq => (h.1 i q hq).same hv, ?_⟩
  have h2 := h.2
  unfold nestw at h2 ⊢
  simp only [List.forall_mem_cons] at h2 ⊢
  obtain ⟨a1, a2, a3, a4, a5, a6, a7, a8, a9, -⟩ := h2
  exact ⟨a1.same rfl hv.symm, a2.same rfl hv.symm, a3.same rfl hv.symm, a4.same rfl hv.symm, a5.same rfl hv.symm, a6.same rfl hv.symm, a7.same rfl hv.symm, a8.same rfl hv.symm, a9.same rfl hv.symm, fun _ h => absurd h List.not_mem_nil⟩
