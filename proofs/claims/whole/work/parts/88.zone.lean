/-! the zone of a root -/
def zup (r : Int) : Nat → Nat → Nat
  | 0, i => i
  | n + 1, i => if rtz ((i + 1 : Nat) : Int) ≤ r then zup r n (i + 1) else i
def zof (r : Int) : Int := (zup r 39 0 : Nat)
theorem zup_r (r : Int) : ∀ n i : Nat, i + n = 39 → rtz (i : Int) ≤ r → i ≤ zup r n i ∧ zup r n i ≤ 39 ∧ rtz ((zup r n i : Nat) : Int) ≤ r ∧ (zup r n i < 39 → r < rtz ((zup r n i + 1 : Nat) : Int)) := by
  intro n
  induction n with
  | zero => intro i hi hr; exact ⟨Nat.le_refl _, by show i ≤ 39; omega, hr, fun q => by have : i < 39 := q; omega⟩
  | succ n ih =>
    intro i hi hr
    unfold zup
    by_cases c : rtz ((i + 1 : Nat) : Int) ≤ r
    · rw [if_pos c]
      obtain ⟨a, b, d, e⟩ := ih (i + 1) (by omega) c
      exact ⟨by omega, b, d, e⟩
    · rw [if_neg c]
      exact ⟨Nat.le_refl _, by omega, hr, fun _ => by omega⟩
theorem zof_r {r : Int} (h : 38554 ≤ r) : 0 ≤ zof r ∧ zof r ≤ 39 := by
  have h0 : rtz ((0 : Nat) : Int) ≤ r := h
  have := zup_r r 39 0 (by omega) h0
  unfold zof
  omega
theorem zof_iff {r k : Int} (h : 38554 ≤ r) (h0 : 0 ≤ k) (h1 : k ≤ 39) : rtz k ≤ r ↔ k ≤ zof r := by
  have h0' : rtz ((0 : Nat) : Int) ≤ r := h
  obtain ⟨_, b, d, e⟩ := zup_r r 39 0 (by omega) h0'
  unfold zof
  generalize zup r 39 0 = z at *
  constructor
  · intro hk
    rcases (show (z : Int) < k ∨ k ≤ (z : Int) by omega) with c | c
    · have e' := e (by omega)
      have := rtz_le (a := ((z + 1 : Nat) : Int)) (b := k) (by omega) (by omega) (by omega)
      omega
    · exact c
  · intro hk
    have := rtz_le (a := k) (b := (z : Int)) h0 hk (by omega)
    omega
def zBe (side z a r : Int) : Int := if (if side = 1 then a - 1 else z) ≤ zof r then (if side = 1 then a - 1 else z) else zof r
theorem zBe_0 (z a r : Int) : zBe 0 z a r = if z ≤ zof r then z else zof r := by
  unfold zBe
  simp only [Int.reduceEq, if_false]
theorem zBe_1 (z a r : Int) : zBe 1 z a r = if a - 1 ≤ zof r then a - 1 else zof r := by
  unfold zBe
  simp only [if_true]
theorem R_zoneOf_loop {M : MZ} (K : KON M) (r : Int) : ∀ (n i f : Nat), i + n = 39 → n < f → g_X12_zoneOf_2 f r i M = some (((zup r n i : Nat) : Int), M) := by
  intro n
  induction n with
  | zero =>
    intro i f hi hf
    obtain ⟨f, rfl⟩ : ∃ g, f = g + 1 := ⟨f - 1, by omega⟩
    have e : g_X12_zoneOf_2 (f + 1) r i M = g_X12_zoneOf_2B (g_X12_zoneOf_2 f) r i M := rfl
    rw [e]
    unfold g_X12_zoneOf_2B g_X12_zoneOf_27
    rw [if_pos (by omega)]
    rfl
  | succ n ih =>
    intro i f hi hf
    obtain ⟨f, rfl⟩ : ∃ g, f = g + 1 := ⟨f - 1, by omega⟩
    have e : g_X12_zoneOf_2 (f + 1) r i M = g_X12_zoneOf_2B (g_X12_zoneOf_2 f) r i M := rfl
    have e2 := ih (i + 1) f (by omega) (by omega)
    have ek : zL M 21 (i + 1) = rtz ((i + 1 : Nat) : Int) := K.1 _ (by omega)
    rw [e]
    unfold g_X12_zoneOf_2B g_X12_zoneOf_27
    rw [if_neg (by omega), w32_id (x := (i : Int) + 1) (by omega) (by omega), if_pos (by omega), show ((i : Int) + 1).toNat = i + 1 by omega, ek, show (i : Int) + 1 = ((i + 1 : Nat) : Int) by omega, e2]
    have ez : zup r (n + 1) i = if rtz ((i + 1 : Nat) : Int) ≤ r then zup r n (i + 1) else i := rfl
    rw [ez]
    by_cases c : rtz ((i + 1 : Nat) : Int) ≤ r
    · rw [if_neg (by omega), if_pos c]
    · rw [if_pos (by omega), if_neg c]
theorem R_zoneOf {M : MZ} (K : KON M) (r : Int) : g_X12_zoneOf r M = some (zof r, M) := R_zoneOf_loop K r 39 0 100000 (by omega) (by omega)
theorem K_zone0 {r : Int} (h : 38554 ≤ r) {M : MZ} (m5 : zI M 4 5 = r) : ∀ (n f : Nat), n ≤ 39 → n < f → g_X10_zoneShortOf_12 f n M = some (if (n : Int) ≤ zof r then (n : Int) else zof r, M) := by
  have hr := zof_r h
  intro n
  induction n with
  | zero =>
    intro f hn hf
    obtain ⟨f, rfl⟩ : ∃ g, f = g + 1 := ⟨f - 1, by omega⟩
    have e : g_X10_zoneShortOf_12 (f + 1) ((0 : Nat) : Int) M = g_X10_zoneShortOf_12B (g_X10_zoneShortOf_12 f) ((0 : Nat) : Int) M := rfl
    rw [e]
    unfold g_X10_zoneShortOf_12B g_X10_zoneShortOf_33
    rw [if_pos (by omega), if_pos (by omega)]
  | succ n ih =>
    intro f hn hf
    obtain ⟨f, rfl⟩ : ∃ g, f = g + 1 := ⟨f - 1, by omega⟩
    have e : g_X10_zoneShortOf_12 (f + 1) ((n + 1 : Nat) : Int) M = g_X10_zoneShortOf_12B (g_X10_zoneShortOf_12 f) ((n + 1 : Nat) : Int) M := rfl
    have hi := zof_iff h (k := ((n + 1 : Nat) : Int)) (by omega) (by omega)
    have hi' : zroots ((n + 1 : Nat) : Int).toNat ≤ r ↔ ((n + 1 : Nat) : Int) ≤ zof r := hi
    rw [e]
    unfold g_X10_zoneShortOf_12B g_X10_zoneShortOf_33
    rw [if_neg (by omega), K_rootAt (by omega) (by omega)]
    simp only [bindS]
    rw [m5]
    by_cases c : ((n + 1 : Nat) : Int) ≤ zof r
    · rw [if_pos (hi'.mpr c), if_pos c]
    · rw [if_neg (fun q => c (hi'.mp q)), if_neg c, w32_id (by omega) (by omega), show ((n + 1 : Nat) : Int) + -1 = (n : Int) by omega, ih f (by omega) (by omega)]
      split
      · rename_i c2
        have : zof r = n := by omega
        rw [this]
      · rfl
theorem K_zone1 {r : Int} (h : 38554 ≤ r) {a : Nat} (ha : a ≤ 40) {M : MZ} (m5 : zI M 4 5 = r) : ∀ (d z f : Nat), z + d + 1 = a → d < f → (z : Int) ≤ zof r → g_X10_zoneShortOf_35 f a z M = some (if (a : Int) - 1 ≤ zof r then (a : Int) - 1 else zof r, M) := by
  have hr := zof_r h
  intro d
  induction d with
  | zero =>
    intro z f hz hf hq
    obtain ⟨f, rfl⟩ : ∃ g, f = g + 1 := ⟨f - 1, by omega⟩
    have e : g_X10_zoneShortOf_35 (f + 1) a z M = g_X10_zoneShortOf_35B (g_X10_zoneShortOf_35 f) a z M := rfl
    rw [e]
    unfold g_X10_zoneShortOf_35B g_X10_zoneShortOf_61
    rw [w32_id (x := (z : Int) + 1) (by omega) (by omega), if_pos (by omega), if_pos (by omega), show (a : Int) - 1 = (z : Int) by omega]
  | succ d ih =>
    intro z f hz hf hq
    obtain ⟨f, rfl⟩ : ∃ g, f = g + 1 := ⟨f - 1, by omega⟩
    have e : g_X10_zoneShortOf_35 (f + 1) a z M = g_X10_zoneShortOf_35B (g_X10_zoneShortOf_35 f) a z M := rfl
    have hi := zof_iff h (k := (z : Int) + 1) (by omega) (by omega)
    have hi' : zroots ((z : Int) + 1).toNat ≤ r ↔ (z : Int) + 1 ≤ zof r := hi
    rw [e]
    unfold g_X10_zoneShortOf_35B g_X10_zoneShortOf_61
    rw [w32_id (x := (z : Int) + 1) (by omega) (by omega), if_neg (by omega), K_rootAt (by omega) (by omega)]
    simp only [bindS]
    rw [m5]
    by_cases c : (z : Int) + 1 ≤ zof r
    · have := hi'.mpr c
      rw [if_neg (by omega), show (z : Int) + 1 = ((z + 1 : Nat) : Int) by omega]
      exact ih (z + 1) f (by omega) (by omega) (by omega)
    · have hn : ¬ zroots ((z : Int) + 1).toNat ≤ r := fun q => c (hi'.mp q)
      rw [if_pos (by omega), if_neg (by omega), show zof r = (z : Int) by omega]
theorem K_zoneShort {M : MZ} {side z r a : Int} (hs : side = 0 ∨ side = 1) (h : 38554 ≤ r) (hz : 0 ≤ z ∧ z ≤ 39) (ha : 0 ≤ a ∧ a ≤ 40) (h1 : side = 1 → z < a ∧ rtz z ≤ r) (m3 : zI M 4 3 = side) (m5 : zI M 4 5 = r) (m8 : zI M 4 8 = z) : g_X10_zoneShortOf a M = some (zBe side z a r, M) := by
  have hr := zof_r h
  obtain ⟨z, rfl⟩ := zR_nat hz.1
  obtain ⟨a, rfl⟩ := zR_nat ha.1
  unfold g_X10_zoneShortOf g_X10_zoneShortOf_5
  rw [m8, m3]
  rcases hs with rfl | rfl
  · rw [if_pos rfl, K_zone0 h m5 z 100000 (by omega) (by omega), zBe_0]
  · obtain ⟨q1, q2⟩ := h1 rfl
    have := (zof_iff h (k := (z : Int)) (by omega) (by omega)).mp q2
    rw [if_neg (by omega), K_zone1 h (a := a) (by omega) m5 (a - 1 - z) z 100000 (by omega) (by omega) this, zBe_1]
theorem R_zoneBy {M : MZ} {N T : Nat → Int} {L : List (Nat → Int)} {th pe po : Int} (R : RepR M N T L th pe po) {p : Nat} (hp : p < 5) (hz : 0 ≤ N (22 + 23 * p + 1) ∧ N (22 + 23 * p + 1) < 40) (r : Int) {side a : Int} (hs : side = 0 ∨ side = 1) (ha : 0 ≤ a ∧ a ≤ 40) : g_X12_zoneBy p (zof r) side a M = some (zBe side (N (22 + 23 * p + 1)) a r, M) := by
  unfold g_X12_zoneBy g_X12_zoneBy_17 g_X12_zoneBy_31
  rw [R_zone R hp hz]
  simp only [bindS]
  rcases hs with rfl | rfl
  · rw [if_neg (by omega), zBe_0]
    split <;> rfl
  · rw [if_pos rfl, zBe_1, w32_id (by omega) (by omega)]
    split <;> rfl
/-- root and zone fit behind a step that is not wholly made -/
theorem zBe_rz {side z r r' a : Int} (hs : side = 0 ∨ side = 1) (hR : Rzz r z) (ha : 0 ≤ a ∧ a ≤ 40) (h0 : side = 0 → a ≤ z ∧ rtz a ≤ r' ∧ r' ≤ r) (h1 : side = 1 → z < a ∧ r ≤ r' ∧ r' ≤ rtz a) : Rzz r' (zBe side z a r') ∧ (side = 0 → a ≤ zBe side z a r' ∧ zBe side z a r' ≤ z) ∧ (side = 1 → z ≤ zBe side z a r' ∧ zBe side z a r' < a) := by
  obtain ⟨hz, hr1, hr2⟩ := hR
  have b1 := rtz_r (t := z) (by omega) (by omega)
  have b2 := rtz_r (t := a) (by omega) (by omega)
  have h : 38554 ≤ r' := by
    rcases hs with q | q
    · have := h0 q; omega
    · have := h1 q; omega
  have hr := zof_r h
  have hup : zof r' < 39 → r' < rtz (zof r' + 1) := by
    intro q
    rcases (show r' < rtz (zof r' + 1) ∨ rtz (zof r' + 1) ≤ r' by omega) with c | c
    · exact c
    · have := (zof_iff h (k := zof r' + 1) (by omega) (by omega)).mp c
      omega
  have hlow : rtz (zof r') ≤ r' := (zof_iff h (by omega) (by omega)).mpr (Int.le_refl _)
  rcases hs with rfl | rfl
  · obtain ⟨g1, g2, g3⟩ := h0 rfl
    rw [zBe_0]
    have hq := (zof_iff h (k := a) (by omega) (by omega)).mp g2
    split
    · rename_i c
      have hzz := (zof_iff h (k := z) (by omega) (by omega)).mpr c
      exact ⟨⟨hz, hzz, by omega⟩, fun _ => ⟨g1, Int.le_refl _⟩, fun q => by omega⟩
    · rename_i c
      exact ⟨⟨by omega, hlow, by have := hup (by omega); omega⟩, fun _ => ⟨hq, by omega⟩, fun q => by omega⟩
  · obtain ⟨g1, g2, g3⟩ := h1 rfl
    rw [zBe_1]
    have hq := (zof_iff h (k := z) (by omega) (by omega)).mp (by omega)
    split
    · rename_i c
      have hzz := (zof_iff h (k := a - 1) (by omega) (by omega)).mpr c
      exact ⟨⟨by omega, hzz, by rw [show a - 1 + 1 = a by omega]; exact g3⟩, fun q => by omega, fun _ => ⟨by omega, by omega⟩⟩
    · rename_i c
      exact ⟨⟨by omega, hlow, by have := hup (by omega); omega⟩, fun q => by omega, fun _ => ⟨hq, by omega⟩⟩
