/-! the next tick that a swap meets -/
def amS (side z a t : Int) : Int := if side = 0 then (if t ≤ z ∧ a < t then t else a) else (if z < t ∧ t < a then t else a)
def amL (p side z a : Int) (s : Nat → Int) : Int := if s 1 = p then amS side z (amS side z a (s 2)) (s 3) else a
def aim (L : List (Nat → Int)) (p side z e : Int) : Int := L.foldl (amL p side z) e
def nrS (side z y t : Int) : Int := if side = 0 then (if t ≤ z ∧ y < t then t else y) else (if z < t ∧ (y = -1 ∨ t < y) then t else y)
def nrL (p side z y : Int) (s : Nat → Int) : Int := if s 1 = p then nrS side z (nrS side z y (s 2)) (s 3) else y
def edg (L : List (Nat → Int)) (p side z : Int) : Int := L.foldl (nrL p side z) (-1)
def nearE (side e y : Int) : Int := if y = -1 then e else if side = 0 then (if e < y then y else e) else (if y < e then y else e)
theorem near_step {side z e y t : Int} (ht : 0 ≤ t) (hz : 0 ≤ z) (he : 0 ≤ e) (hy : -1 ≤ y) : nearE side e (nrS side z y t) = amS side z (nearE side e y) t ∧ -1 ≤ nrS side z y t := by
  unfold nearE nrS amS
  by_cases c : side = 0
  · simp only [if_pos c]
    repeat' split
    all_goals omega
  · simp only [if_neg c]
    repeat' split
    all_goals omega
theorem aim_edg {pe po : Int} {L : List (Nat → Int)} (hL : Lok pe po L) (p side : Int) {z e : Int} (hz : 0 ≤ z) (he : 0 ≤ e) : aim L p side z e = nearE side e (edg L p side z) ∧ -1 ≤ edg L p side z := by
  have key : ∀ (L : List (Nat → Int)), Lok pe po L → ∀ y : Int, -1 ≤ y → L.foldl (amL p side z) (nearE side e y) = nearE side e (L.foldl (nrL p side z) y) ∧ -1 ≤ L.foldl (nrL p side z) y := by
    intro L
    induction L with
    | nil => intro _ y hy; exact ⟨rfl, hy⟩
    | cons s l ih =>
      intro hL y hy
      have hs := hL s (List.mem_cons_self ..)
      have hl : Lok pe po l := fun x hx => hL x (List.mem_cons_of_mem _ hx)
      have h2 := hs.2.2.1
      obtain ⟨a1, a2⟩ := near_step (side := side) (z := z) (e := e) (y := y) (t := s 2) (by omega) hz he hy
      obtain ⟨b1, b2⟩ := near_step (side := side) (z := z) (e := e) (y := nrS side z y (s 2)) (t := s 3) (by omega) hz he a2
      have e1 : amL p side z (nearE side e y) s = nearE side e (nrL p side z y s) ∧ -1 ≤ nrL p side z y s := by
        unfold amL nrL
        by_cases c : s 1 = p
        · rw [if_pos c, if_pos c, b1, a1]
          exact ⟨rfl, b2⟩
        · rw [if_neg c, if_neg c]
          exact ⟨rfl, hy⟩
      rw [List.foldl_cons, List.foldl_cons, e1.1]
      exact ih hl _ e1.2
  have e0 : nearE side e (-1) = e := if_pos rfl
  have := key L hL (-1) (by omega)
  rw [e0] at this
  exact this
theorem aim_take (p side z e : Int) {L : List (Nat → Int)} {i : Nat} (h : i < L.length) : (L.take (i + 1)).foldl (amL p side z) e = amL p side z ((L.take i).foldl (amL p side z) e) (L.getD i d0) := by
  rw [take_succ_getD h, List.foldl_append]
  rfl
theorem edg_take (p side z e : Int) {L : List (Nat → Int)} {i : Nat} (h : i < L.length) : (L.take (i + 1)).foldl (nrL p side z) e = nrL p side z ((L.take i).foldl (nrL p side z) e) (L.getD i d0) := by
  rw [take_succ_getD h, List.foldl_append]
  rfl
/-- where the aim lies -/
theorem aim_r {pe po : Int} {L : List (Nat → Int)} (hL : Lok pe po L) (p : Int) {side z e : Int} (hz : 0 ≤ z ∧ z < 40) (hs : side = 0 ∨ side = 1) (he : 0 ≤ e ∧ e ≤ 40) (hge : if side = 0 then e ≤ z else z < e) : (side = 0 → e ≤ aim L p side z e ∧ aim L p side z e ≤ z) ∧ (side = 1 → z < aim L p side z e ∧ aim L p side z e ≤ e) := by
  have key : ∀ (L : List (Nat → Int)) (a : Int), (side = 0 → e ≤ a ∧ a ≤ z) ∧ (side = 1 → z < a ∧ a ≤ e) → (side = 0 → e ≤ L.foldl (amL p side z) a ∧ L.foldl (amL p side z) a ≤ z) ∧ (side = 1 → z < L.foldl (amL p side z) a ∧ L.foldl (amL p side z) a ≤ e) := by
    intro L
    induction L with
    | nil => intro a h; exact h
    | cons s l ih =>
      intro a h
      rw [List.foldl_cons]
      apply ih
      unfold amL amS
      rcases hs with rfl | rfl
      · simp only [if_true]
        repeat' split
        all_goals (constructor <;> intro _ <;> omega)
      · have hn : ¬ (1 : Int) = 0 := by omega
        simp only [if_neg hn]
        repeat' split
        all_goals (constructor <;> intro _ <;> omega)
  refine key L e ?_
  rcases hs with rfl | rfl
  · rw [if_pos rfl] at hge
    exact ⟨fun _ => ⟨Int.le_refl _, hge⟩, fun q => by omega⟩
  · rw [if_neg (by omega)] at hge
    exact ⟨fun q => by omega, fun _ => ⟨hge, Int.le_refl _⟩⟩
section AI
variable {M : MZ} {b : Nat} {kk : Bool} {N T : Nat → Int} {L : List (Nat → Int)} {th pe po : Int}
theorem K_nearer (y t z side : Int) (M : MZ) : g_X2_nearer y t z side M = some (nrS side z y t, M) := by
  unfold g_X2_nearer g_X2_nearer_18 g_X2_nearer_19 g_X2_nearer_35 g_X2_nearer_39 g_X2_nearer_40 nrS
  by_cases c : side = 0
  · rw [if_pos c, if_pos c]
    repeat' split
    all_goals first | rfl | omega
  · rw [if_neg c, if_neg c]
    repeat' split
    all_goals first | rfl | omega
theorem K_edge_loop (hb : bOK b) (R : Rep kk M b N T L th pe po) (p side z : Int) : ∀ (n i f : Nat), i + n = L.length → n < f → g_X2_nextEdge_6 f b p z side ((L.take i).foldl (nrL p side z) (-1)) i M = some (edg L p side z, M) := by
  have h12 := R.2.2.2.2.2.2
  have h3 := R.1.2.2.2.1
  intro n
  induction n with
  | zero =>
    intro i f hi hf
    obtain ⟨f, rfl⟩ : ∃ g, f = g + 1 := ⟨f - 1, by omega⟩
    unfold g_X2_nextEdge_6 g_X2_nextEdge_6B g_X2_nextEdge_77
    rw [if_pos (kdb hb), if_pos (by omega), show i = L.length by omega, List.take_length]
    rfl
  | succ n ih =>
    intro i f hi hf
    obtain ⟨f, rfl⟩ : ∃ g, f = g + 1 := ⟨f - 1, by omega⟩
    have hl : i < L.length := by omega
    have e2 := ih (i + 1) f (by omega) (by omega)
    rw [edg_take _ _ _ _ hl] at e2
    unfold g_X2_nextEdge_6 g_X2_nextEdge_6B g_X2_nextEdge_34 g_X2_nextEdge_71
    rw [if_pos (kdb hb), if_neg (by omega), if_neg (by omega), if_pos (by omega), Int.toNat_natCast, if_pos (R.2.2.2.2.2.1.kd hb (by omega)), K_sI R hl (w := 1) (by omega), K_sI R hl (w := 2) (by omega), w32_id (x := (i : Int) + 1) (by omega) (by omega)]
    simp only [K_nearer, bindS, K_sI R hl (w := 3) (by omega)]
    unfold nrL at e2
    by_cases c : L.getD i d0 1 = p
    · rw [if_pos c] at e2
      rw [if_pos c]
      exact e2
    · rw [if_neg c] at e2
      rw [if_neg c]
      exact e2
theorem K_edge (hb : bOK b) (R : Rep kk M b N T L th pe po) (p side z : Int) : g_X2_nextEdge b p z side M = some (edg L p side z, M) := by
  have h12 := R.2.2.2.2.2.2
  exact K_edge_loop hb R p side z L.length 0 100000 (by omega) (by omega)
theorem K_aim (hb : bOK b) (R : Rep kk M b N T L th pe po) (hL : Lok pe po L) {p side z e : Int} (hz : 0 ≤ z) (he : 0 ≤ e) (hs : side = 0 ∨ side = 1) (m0 : zR M 4 0 = b) (m2 : zI M 4 2 = p) (m3 : zI M 4 3 = side) (m8 : zI M 4 8 = z) : g_X10_aimBefore e M = some (aim L p side z e, M) := by
  obtain ⟨h1, h2⟩ := aim_edg hL p side hz he
  unfold g_X10_aimBefore g_X10_aimBefore_50 g_X10_aimBefore_60 g_X10_aimBefore_65
  rw [m0, if_pos (kdb hb), m2, m8, m3, K_edge hb R]
  simp only [bindS]
  rw [m3, h1]
  unfold nearE
  rcases hs with rfl | rfl
  · simp only [reduceIte, Int.reduceEq]
    repeat' split
    all_goals first | rfl | omega
  · simp only [reduceIte, Int.reduceEq]
    repeat' split
    all_goals first | rfl | omega
theorem R_aim_in (R : RepR M N T L th pe po) {i : Nat} (hl : i < L.length) (h2 : 0 ≤ L.getD i d0 2 ∧ L.getD i d0 2 ≤ 40) (h3 : 0 ≤ L.getD i d0 3 ∧ L.getD i d0 3 ≤ 40) (p side z a : Int) (k13 : Int → Int → Int → Int → Int → MZ → Option (Int × MZ)) (f : Nat) : g_X12_aimOf_41 k13 (f + 3) p side z a i 2 M = k13 p side z (amS side z (amS side z a (L.getD i d0 2)) (L.getD i d0 3)) (w32 ((i : Int) + 1)) M := by
  have o2 : g_X12_ofStake i 2 M = some (L.getD i d0 2, M) := R_stk R hl (by omega) (by omega)
  have o3 : g_X12_ofStake i 3 M = some (L.getD i d0 3, M) := R_stk R hl (by omega) (by omega)
  have e : ∀ (g : Nat) (a k : Int), g_X12_aimOf_41 k13 (g + 1) p side z a i k M = g_X12_aimOf_41B k13 (g_X12_aimOf_41 k13 g) p side z a i k M := fun _ _ _ => rfl
  have h58 : ∀ (g : Nat) (a k t : Int), g_X12_aimOf_58 k13 (g_X12_aimOf_41 k13 g) p side z a i k t M = g_X12_aimOf_41 k13 g p side z (amS side z a t) i (w32 (k + 1)) M := by
    intro g a k t
    unfold g_X12_aimOf_58 g_X12_aimOf_93 g_X12_aimOf_97 amS
    by_cases c : side = 0
    · rw [if_pos c, if_pos c]
      repeat' split
      all_goals first | rfl | omega
    · rw [if_neg c, if_neg c]
      repeat' split
      all_goals first | rfl | omega
  have s1 : ∀ a, g_X12_aimOf_41 k13 (f + 1 + 1 + 1) p side z a i 2 M = g_X12_aimOf_41 k13 (f + 1 + 1) p side z (amS side z a (L.getD i d0 2)) i 3 M := by
    intro a
    rw [e]
    unfold g_X12_aimOf_41B
    rw [if_neg (by omega), o2]
    simp only [bindS]
    rw [h58, w32_id (by omega) (by omega), w32_id (by omega) (by omega)]
    rfl
  have s2 : ∀ a, g_X12_aimOf_41 k13 (f + 1 + 1) p side z a i 3 M = g_X12_aimOf_41 k13 (f + 1) p side z (amS side z a (L.getD i d0 3)) i 4 M := by
    intro a
    rw [e]
    unfold g_X12_aimOf_41B
    rw [if_neg (by omega), o3]
    simp only [bindS]
    rw [h58, w32_id (by omega) (by omega), w32_id (by omega) (by omega)]
    rfl
  have s3 : ∀ a, g_X12_aimOf_41 k13 (f + 1) p side z a i 4 M = k13 p side z a (w32 ((i : Int) + 1)) M := by
    intro a
    rw [e]
    unfold g_X12_aimOf_41B g_X12_aimOf_103
    rw [if_pos (by omega)]
  rw [s1, s2, s3]
theorem R_aim_loop (R : RepR M N T L th pe po) (hL : Lok pe po L) (p side z e : Int) : ∀ (n i f : Nat), i + n = L.length → n < f → g_X12_aimOf_13 f p side z ((L.take i).foldl (amL p side z) e) i M = some (aim L p side z e, M) := by
  have h12 := R.2.2.2.2.2
  intro n
  induction n with
  | zero =>
    intro i f hi hf
    obtain ⟨f, rfl⟩ : ∃ g, f = g + 1 := ⟨f - 1, by omega⟩
    unfold g_X12_aimOf_13 g_X12_aimOf_13B
    rw [R_stakes R]
    simp only [bindS]
    rw [if_pos (by omega), show i = L.length by omega, List.take_length]
    rfl
  | succ n ih =>
    intro i f hi hf
    obtain ⟨f, rfl⟩ : ∃ g, f = g + 1 := ⟨f - 1, by omega⟩
    have hl : i < L.length := by omega
    have hs := hL _ (getD_mem hl)
    have e2 := ih (i + 1) f (by omega) (by omega)
    rw [aim_take _ _ _ _ hl] at e2
    have o1 : g_X12_ofStake i 1 M = some (L.getD i d0 1, M) := R_stk R hl (by omega) (by omega)
    have ein := R_aim_in R hl (by have := hs.2.2.1; omega) (by have := hs.2.2.1; omega) p side z ((L.take i).foldl (amL p side z) e) (g_X12_aimOf_13 f) 99997
    rw [w32_id (x := (i : Int) + 1) (by omega) (by omega)] at ein
    unfold g_X12_aimOf_13 g_X12_aimOf_13B g_X12_aimOf_103
    rw [R_stakes R]
    simp only [bindS, o1]
    rw [if_neg (by omega), w32_id (x := (i : Int) + 1) (by omega) (by omega)]
    unfold amL at e2
    by_cases c : L.getD i d0 1 = p
    · rw [if_pos c] at e2
      rw [if_pos c]
      exact ein.trans e2
    · rw [if_neg c] at e2
      rw [if_neg c]
      exact e2
theorem R_aim (R : RepR M N T L th pe po) (hL : Lok pe po L) {p : Nat} (hp : p < 5) (hz : 0 ≤ N (22 + 23 * p + 1) ∧ N (22 + 23 * p + 1) < 40) (side e : Int) : g_X12_aimOf p side e M = some (aim L p side (N (22 + 23 * p + 1)) e, M) := by
  have h12 := R.2.2.2.2.2
  unfold g_X12_aimOf
  rw [R_zone R hp hz]
  simp only [bindS]
  exact R_aim_loop R hL p side (N (22 + 23 * p + 1)) e L.length 0 100000 (by omega) (by omega)
end AI
