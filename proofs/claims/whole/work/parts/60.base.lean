/-! pure half: words over the Int memory -/
theorem w32_id {x : Int} (h1 : -2147483648 ≤ x) (h2 : x ≤ 2147483647) : w32 x = x := by
  unfold w32 Int.bmod
  simp only []
  split <;> omega
theorem w64_id {x : Int} (h1 : -9223372036854775808 ≤ x) (h2 : x ≤ 9223372036854775807) : w64 x = x := by
  unfold w64 Int.bmod
  simp only []
  split <;> omega
theorem w8_id {x : Int} (h1 : -128 ≤ x) (h2 : x ≤ 127) : w8 x = x := by
  unfold w8 Int.bmod
  simp only []
  split <;> omega
theorem w32_r (x : Int) : -2147483648 ≤ w32 x ∧ w32 x ≤ 2147483647 := by
  unfold w32 Int.bmod
  simp only []
  split <;> omega
theorem w8_r (x : Int) : -128 ≤ w8 x ∧ w8 x ≤ 127 := by
  unfold w8 Int.bmod
  simp only []
  split <;> omega
theorem w32_w32 (x : Int) : w32 (w32 x) = w32 x := w32_id (w32_r x).1 (w32_r x).2
theorem w8_w8 (x : Int) : w8 (w8 x) = w8 x := w8_id (w8_r x).1 (w8_r x).2
theorem w32_add_w32 (x y : Int) : w32 (w32 x + y) = w32 (x + y) := by
  unfold w32
  exact Int.bmod_add_bmod
theorem w32_w64 (x : Int) : w32 (w64 x) = w32 x := by
  unfold w32 w64 Int.bmod
  simp only []
  split <;> split <;> split <;> omega
theorem zI_uI (M : MZ) (h k : Nat) (v : Int) (a b : Nat) : zI (uI M h k v) a b = if a = h ∧ b = k then v else zI M a b := rfl
theorem zL_uI (M : MZ) (h k : Nat) (v : Int) (a b : Nat) : zL (uI M h k v) a b = zL M a b := rfl
theorem zR_uI (M : MZ) (h k : Nat) (v : Int) (a b : Nat) : zR (uI M h k v) a b = zR M a b := rfl
theorem zI_uL (M : MZ) (h k : Nat) (v : Int) (a b : Nat) : zI (uL M h k v) a b = zI M a b := rfl
theorem zL_uL (M : MZ) (h k : Nat) (v : Int) (a b : Nat) : zL (uL M h k v) a b = if a = h ∧ b = k then v else zL M a b := rfl
theorem zR_uL (M : MZ) (h k : Nat) (v : Int) (a b : Nat) : zR (uL M h k v) a b = zR M a b := rfl
theorem zI_uR (M : MZ) (h k v : Nat) (a b : Nat) : zI (uR M h k v) a b = zI M a b := rfl
theorem zL_uR (M : MZ) (h k v : Nat) (a b : Nat) : zL (uR M h k v) a b = zL M a b := rfl
theorem zR_uR (M : MZ) (h k v : Nat) (a b : Nat) : zR (uR M h k v) a b = if a = h ∧ b = k then v else zR M a b := rfl
theorem zI_zcp (M : MZ) (h0 sp h1 dp n a b : Nat) : zI (zcp M h0 sp h1 dp n) a b = if a = h1 then (if dp ≤ b ∧ b < dp + n then zI M h0 (sp + (b - dp)) else zI M h1 b) else zI M a b := rfl
theorem zL_zcp (M : MZ) (h0 sp h1 dp n a b : Nat) : zL (zcp M h0 sp h1 dp n) a b = zL M a b := rfl
theorem zR_zcp (M : MZ) (h0 sp h1 dp n a b : Nat) : zR (zcp M h0 sp h1 dp n) a b = zR M a b := rfl
theorem bindD {α β : Type} (x : α) (f : α → Option β) : (some x).bind f = f x := rfl
/-- not by rfl: a kernel that holds two binds against each other would unfold the machine's numbers -/
theorem bindS {α β : Type} (x : α) (f : α → Option β) : (some x).bind f = f x := Eq.trans rfl rfl
/-- a truth as the machine has it -/
def bI (c : Prop) [Decidable c] : Int := if c then 1 else 0
theorem bI_0 (c : Prop) [Decidable c] : (bI c = 0) = ¬ c := by
  unfold bI
  by_cases h : c <;> simp [h]
theorem bI_1 (c : Prop) [Decidable c] : (bI c = 1) = c := by
  unfold bI
  by_cases h : c <;> simp [h]
theorem bI_pos {c : Prop} [Decidable c] (h : c) : bI c = 1 := if_pos h
theorem bI_neg {c : Prop} [Decidable c] (h : ¬ c) : bI c = 0 := if_neg h
/-- a row of numbers by its places, together -/
def sm (n : Nat) (f : Nat → Int) : Int := match n with
  | 0 => 0
  | k + 1 => sm k f + f k
theorem sm_congr {n : Nat} {f g : Nat → Int} (h : ∀ i, i < n → f i = g i) : sm n f = sm n g := by
  induction n with
  | zero => rfl
  | succ k ih => unfold sm; rw [ih (fun i hi => h i (by omega)), h k (by omega)]
/-- roots of ticks -/
theorem rt_lo : ∀ k, k < 41 → 38554 ≤ zroots k := by decide +kernel
theorem rt_hi : ∀ k, k < 41 → zroots k ≤ 259374 := by decide +kernel
theorem rt_up1 : ∀ k, k < 40 → zroots k < zroots (k + 1) := by decide +kernel
theorem rt_mono {a b : Nat} (h : a < b) (hb : b < 41) : zroots a < zroots b := by
  induction b with
  | zero => omega
  | succ k ih =>
    by_cases e : a = k
    · subst e; exact rt_up1 a (by omega)
    · exact Int.lt_trans (ih (by omega) (by omega)) (rt_up1 k (by omega))
theorem rt_le {a b : Nat} (h : a ≤ b) (hb : b < 41) : zroots a ≤ zroots b := by
  by_cases e : a = b
  · subst e; exact Int.le_refl _
  · exact Int.le_of_lt (rt_mono (by omega) hb)
/-- where the kinds stand -/
def bOK (b : Nat) : Prop := b = 78 ∨ b = 143
theorem kdb {b : Nat} (h : bOK b) : kd b = (1, 9) := by
  rcases h with rfl | rfl <;> decide +kernel
theorem kdp {b p : Nat} (h : bOK b) (hp : p < 5) : kd (b + 2 + 2 + 5 * p) = (3, 12) := by
  have h1 : ∀ p, p < 5 → kd (78 + 2 + 2 + 5 * p) = (3, 12) := by decide +kernel
  have h2 : ∀ p, p < 5 → kd (143 + 2 + 2 + 5 * p) = (3, 12) := by decide +kernel
  rcases h with rfl | rfl
  · exact h1 p hp
  · exact h2 p hp
theorem kds {b j : Nat} (h : bOK b) (hj : j < 12) : kd (b + 29 + 3 * j) = (6, 8) := by
  have h1 : ∀ p, p < 12 → kd (78 + 29 + 3 * p) = (6, 8) := by decide +kernel
  have h2 : ∀ p, p < 12 → kd (143 + 29 + 3 * p) = (6, 8) := by decide +kernel
  rcases h with rfl | rfl
  · exact h1 j hj
  · exact h2 j hj
/-- from the lifted pair to the owed pair -/
theorem SO_of {IV : MZ → Prop} {f g : Mem → Option (Int32 × Mem)} {f' g' : MZ → Option (Int × MZ)} (hf : ∀ S, Lf tI (f S) = f' (tz S)) (hg : ∀ S, Lf tI (g S) = g' (tz S)) (h : ∀ M, IV M → ∃ r M1 M2, f' M = some (r, M1) ∧ g' M1 = some (r, M2) ∧ IV M2) : SO (fun S => IV (tz S)) f g := by
  intro S hS
  obtain ⟨r, M1, M2, h1, h2, h3⟩ := h _ hS
  obtain ⟨⟨r1, S1⟩, e1, e2, e3⟩ := Lf_ok ((hf S).trans h1)
  dsimp only at e2 e3
  subst e3
  obtain ⟨⟨r2, S2⟩, e4, e5, e6⟩ := Lf_ok ((hg S1).trans h2)
  dsimp only at e5 e6
  subst e6
  have er : r1 = r2 := Int32.toInt_inj.mp (e2.trans e5.symm)
  subst er
  exact ⟨r1, S1, S2, e1, e4, h3⟩
theorem tI_r (a : Int32) : -2147483648 ≤ tI a ∧ tI a ≤ 2147483647 := by
  constructor
  · exact Int32.le_toInt a
  · have := Int32.toInt_lt a
    show a.toInt ≤ _
    omega
