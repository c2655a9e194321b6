/-! the best row: two orders of looking, one answer -/
abbrev BT : Type := Int × Int × Nat
def rl (r : Nat) : Nat := if r = 0 then 0 else rlen r
def stp (a : Int) (V : Nat → Int) (s : BT) (r : Nat) : BT := if 0 < V r ∧ (s.1 < V r - a ∨ (V r - a = s.1 ∧ a = s.2.1 ∧ rlen r < rl s.2.2)) then (V r - a, a, r) else s
def stq (a : Int) (V : Nat → Int) (s : BT) (r : Nat) : BT := if s.1 < V r - a then (V r - a, a, r) else s
def Bst (a : Int) (V : Nat → Int) (s0 s : BT) (S : Nat → Prop) : Prop := (s = s0 ∧ ∀ r, S r → V r - a ≤ s0.1) ∨ ∃ x, S x ∧ s = (V x - a, a, x) ∧ s0.1 < V x - a ∧ ∀ r, S r → V r - a ≤ V x - a ∧ (V r = V x → x ≤ r)
theorem rlen_mono {x y : Nat} (h : rlen x < rlen y) : x < y := by
  unfold rlen at h
  by_cases c1 : x < 6 <;> by_cases c2 : x < 36 <;> by_cases c3 : y < 6 <;> by_cases c4 : y < 36 <;> simp only [c1, c2, c3, c4, if_true, if_false] at h <;> omega
theorem Bst_uniq {a : Int} {V : Nat → Int} {s0 s s' : BT} {S S' : Nat → Prop} (h0 : -a ≤ s0.1) (h : Bst a V s0 s S) (h' : Bst a V s0 s' S') (h1 : ∀ r, S r → S' r ∨ V r ≤ 0) (h2 : ∀ r, S' r → S r ∨ V r ≤ 0) : s = s' := by
  rcases h with ⟨e, q⟩ | ⟨x, e1, e2, e3, e4⟩
  · rcases h' with ⟨e', q'⟩ | ⟨y, f1, f2, f3, f4⟩
    · rw [e, e']
    · rcases h2 y f1 with g | g
      · have := q y g; omega
      · omega
  · rcases h' with ⟨e', q'⟩ | ⟨y, f1, f2, f3, f4⟩
    · rcases h1 x e1 with g | g
      · have := q' x g; omega
      · omega
    · have hx : S' x := (h1 x e1).resolve_right (by omega)
      have hy : S y := (h2 y f1).resolve_right (by omega)
      have a1 := e4 y hy
      have a2 := f4 x hx
      have ev : V x = V y := by omega
      have a3 := a1.2 ev.symm
      have a4 := a2.2 ev
      have exy : x = y := by omega
      rw [e2, f2, exy]
theorem Bst_q {a : Int} {V : Nat → Int} {s0 s : BT} {lo n : Nat} (h : Bst a V s0 s (fun r => lo ≤ r ∧ r < n)) (hn : lo ≤ n) : Bst a V s0 (stq a V s n) (fun r => lo ≤ r ∧ r < n + 1) := by
  unfold stq
  rcases h with ⟨e, q⟩ | ⟨x, e1, e2, e3, e4⟩
  · rw [e]
    by_cases c : s0.1 < V n - a
    · rw [if_pos c]
      refine Or.inr ⟨n, ⟨hn, by omega⟩, rfl, c, fun r hr => ?_⟩
      by_cases en : r = n
      · rw [en]; exact ⟨Int.le_refl _, fun _ => Nat.le_refl _⟩
      · have := q r ⟨hr.1, by omega⟩
        exact ⟨by omega, fun ev => by omega⟩
    · rw [if_neg c]
      refine Or.inl ⟨rfl, fun r hr => ?_⟩
      by_cases en : r = n
      · rw [en]; omega
      · exact q r ⟨hr.1, by omega⟩
  · rw [e2]
    by_cases c : V x - a < V n - a
    · rw [if_pos c]
      refine Or.inr ⟨n, ⟨hn, by omega⟩, rfl, by omega, fun r hr => ?_⟩
      by_cases en : r = n
      · rw [en]; exact ⟨Int.le_refl _, fun _ => Nat.le_refl _⟩
      · have := (e4 r ⟨hr.1, by omega⟩).1
        exact ⟨by omega, fun ev => by omega⟩
    · rw [if_neg c]
      refine Or.inr ⟨x, ⟨e1.1, by omega⟩, rfl, e3, fun r hr => ?_⟩
      by_cases en : r = n
      · rw [en]; exact ⟨by omega, fun _ => by omega⟩
      · exact e4 r ⟨hr.1, by omega⟩
theorem Bst_p {a : Int} {V : Nat → Int} {s0 s : BT} {S S' : Nat → Prop} {n : Nat} (h : Bst a V s0 s S) (h0 : -a ≤ s0.1) (hm : s0.2.1 ≠ a) (h1 : ∀ x, S x → 1 ≤ x ∧ (rlen x = rlen n → x < n)) (hS : ∀ x, S' x ↔ S x ∨ x = n) : Bst a V s0 (stp a V s n) S' := by
  unfold stp
  rcases h with ⟨e, q⟩ | ⟨x, e1, e2, e3, e4⟩
  · rw [e]
    by_cases c : s0.1 < V n - a
    · rw [if_pos ⟨by omega, Or.inl c⟩]
      refine Or.inr ⟨n, (hS n).2 (Or.inr rfl), rfl, c, fun r hr => ?_⟩
      rcases (hS r).1 hr with g | g
      · have := q r g
        exact ⟨by omega, fun ev => by omega⟩
      · rw [g]; exact ⟨Int.le_refl _, fun _ => Nat.le_refl _⟩
    · rw [if_neg (by
        rintro ⟨_, g | g⟩
        · exact c g
        · exact hm g.2.1.symm)]
      refine Or.inl ⟨rfl, fun r hr => ?_⟩
      rcases (hS r).1 hr with g | g
      · exact q r g
      · rw [g]; omega
  · rw [e2]
    have hx := h1 x e1
    have erl : rl x = rlen x := if_neg (by omega)
    simp only [erl]
    by_cases c : V x - a < V n - a ∨ (V n - a = V x - a ∧ rlen n < rlen x)
    · rw [if_pos ⟨by omega, c.imp id (fun g => ⟨g.1, trivial, g.2⟩)⟩]
      refine Or.inr ⟨n, (hS n).2 (Or.inr rfl), rfl, by omega, fun r hr => ?_⟩
      rcases (hS r).1 hr with g | g
      · have := e4 r g
        refine ⟨by omega, fun ev => ?_⟩
        rcases c with c | c
        · omega
        · have := rlen_mono c.2
          have := this
          have h5 := (e4 r g).2 (by omega)
          omega
      · rw [g]; exact ⟨Int.le_refl _, fun _ => Nat.le_refl _⟩
    · rw [if_neg (fun g => c (g.2.imp id (fun g => ⟨g.1, g.2.2⟩)))]
      refine Or.inr ⟨x, (hS x).2 (Or.inl e1), rfl, e3, fun r hr => ?_⟩
      rcases (hS r).1 hr with g | g
      · exact e4 r g
      · rw [g]
        refine ⟨by omega, fun ev => ?_⟩
        rcases Nat.lt_trichotomy (rlen n) (rlen x) with g1 | g1 | g1
        · exact absurd (Or.inr ⟨by omega, g1⟩) c
        · have := hx.2 g1.symm; omega
        · have := rlen_mono g1; omega
theorem Bst_fold {a : Int} {V : Nat → Int} {s0 : BT} (h0 : -a ≤ s0.1) (hm : s0.2.1 ≠ a) : ∀ (l2 l1 : List Nat) (s : BT), Bst a V s0 s (· ∈ l1) → (l1 ++ l2).Pairwise (fun x y => rlen x = rlen y → x < y) → (∀ x ∈ l1 ++ l2, 1 ≤ x) → Bst a V s0 (l2.foldl (stp a V) s) (· ∈ l1 ++ l2) := by
  intro l2
  induction l2 with
  | nil => intro l1 s h _ _; rw [List.append_nil]; exact h
  | cons n l2 ih =>
    intro l1 s h hp h1
    have e : l1 ++ n :: l2 = (l1 ++ [n]) ++ l2 := by simp
    rw [e] at hp h1 ⊢
    refine ih (l1 ++ [n]) (stp a V s n) (Bst_p h h0 hm (fun x hx => ⟨h1 x (by simp [hx]), ?_⟩) (fun x => by simp)) hp h1
    exact (List.pairwise_append.1 (List.pairwise_append.1 hp).1).2.2 x hx n (by simp)
/-- the order in which the class looks -/
def dfs : Nat → Nat → Nat → List Nat
  | 0, _, _ => []
  | k + 1, c, n => (List.range' n (5 - n)).flatMap fun i => (6 * c + i + 1) :: dfs k (6 * c + i + 1) 0
theorem dfs_step (k c : Nat) {n : Nat} (hn : n < 5) : dfs (k + 1) c n = ((6 * c + n + 1) :: dfs k (6 * c + n + 1) 0) ++ dfs (k + 1) c (n + 1) := by
  rw [dfs, dfs]
  rw [show 5 - n = (5 - (n + 1)) + 1 by omega, List.range'_succ, List.flatMap_cons]
theorem dfs_end (k c : Nat) {n : Nat} (hn : 5 ≤ n) : dfs (k + 1) c n = [] := by
  unfold dfs
  rw [show 5 - n = 0 by omega]
  rfl
theorem dfs_pw : (dfs 3 0 0).Pairwise (fun x y => rlen x = rlen y → x < y) := by decide +kernel
theorem dfs_ge : ∀ x ∈ dfs 3 0 0, 1 ≤ x ∧ x < 216 := by decide +kernel
theorem dfs_all : ∀ r, r < 216 → r ∈ dfs 3 0 0 ∨ r = 0 ∨ ∃ k, k < rlen r ∧ dg r k = 0 := by decide +kernel
theorem fold_0 {a : Int} {V : Nat → Int} : ∀ (l : List Nat) (s : BT), (∀ r ∈ l, V r ≤ 0) → l.foldl (stp a V) s = s := by
  intro l
  induction l with
  | nil => intro s _; rfl
  | cons n l ih =>
    intro s h
    rw [List.foldl_cons, show stp a V s n = s by unfold stp; rw [if_neg (fun q => by have := h n (by simp); omega)]]
    exact ih s (fun r hr => h r (by simp [hr]))
def pc (c d : Nat) : Prop := (d = 0 ∧ c = 0) ∨ (d = 1 ∧ 1 ≤ c ∧ c < 6) ∨ (d = 2 ∧ 6 ≤ c ∧ c < 36)
theorem pc_step {c d n : Nat} (h : pc c d) (hd : d < 2) (hn : n < 5) : pc (6 * c + n + 1) (d + 1) := by
  unfold pc at *; omega
theorem pc_row {c d n : Nat} (h : pc c d) (hn : n < 5) : (1 ≤ 6 * c + n + 1 ∧ 6 * c + n + 1 < 216) ∧ rlen (6 * c + n + 1) = d + 1 ∧ dg (6 * c + n + 1) d = n + 1 ∧ (6 * c + n + 1) / 6 = c ∧ ∀ j, j < d → dg (6 * c + n + 1) j = dg c j := by
  have h1 : ∀ c, c < 6 → 1 ≤ c → ∀ n, n < 5 → rlen (6 * c + n + 1) = 2 ∧ dg (6 * c + n + 1) 1 = n + 1 ∧ ∀ j, j < 1 → dg (6 * c + n + 1) j = dg c j := by decide +kernel
  have h2 : ∀ c, c < 36 → 6 ≤ c → ∀ n, n < 5 → rlen (6 * c + n + 1) = 3 ∧ dg (6 * c + n + 1) 2 = n + 1 ∧ ∀ j, j < 2 → dg (6 * c + n + 1) j = dg c j := by decide +kernel
  have h3 : ∀ n, n < 5 → rlen (6 * 0 + n + 1) = 1 ∧ dg (6 * 0 + n + 1) 0 = n + 1 := by decide +kernel
  rcases h with ⟨rfl, rfl⟩ | ⟨rfl, a1, a2⟩ | ⟨rfl, a1, a2⟩
  · exact ⟨by omega, (h3 n hn).1, (h3 n hn).2, by omega, fun j hj => by omega⟩
  · have g := h1 c a2 a1 n hn
    exact ⟨by omega, g.1, g.2.1, by omega, g.2.2⟩
  · have g := h2 c a2 a1 n hn
    exact ⟨by omega, g.1, g.2.1, by omega, g.2.2⟩
theorem dfs_mem {c d k : Nat} (h : pc c d) (hk : d + k = 3) (hd : 1 ≤ d) : ∀ r ∈ dfs k c 0, ∃ m, 1 ≤ m ∧ rlen r = d + m ∧ r / 6 ^ m = c := by
  have h1 : ∀ c, c < 6 → 1 ≤ c → ∀ r ∈ dfs 2 c 0, (rlen r = 1 + 1 ∧ r / 6 ^ 1 = c) ∨ (rlen r = 1 + 2 ∧ r / 6 ^ 2 = c) := by decide +kernel
  have h2 : ∀ c, c < 36 → 6 ≤ c → ∀ r ∈ dfs 1 c 0, (rlen r = 2 + 1 ∧ r / 6 ^ 1 = c) := by decide +kernel
  intro r hr
  rcases h with ⟨rfl, rfl⟩ | ⟨rfl, a1, a2⟩ | ⟨rfl, a1, a2⟩
  · omega
  · obtain rfl : k = 2 := by omega
    rcases h1 c a2 a1 r hr with g | g
    · exact ⟨1, by omega, g.1, g.2⟩
    · exact ⟨2, by omega, g.1, g.2⟩
  · obtain rfl : k = 1 := by omega
    have g := h2 c a2 a1 r hr
    exact ⟨1, by omega, g.1, g.2⟩
section PV
variable {N T : Nat → Int} {L : List (Nat → Int)} {th pe po fr to a0 : Int}
/-- a row's beginning, walked -/
def PVd (N T : Nat → Int) (L : List (Nat → Int)) (po fr to a0 : Int) (c d : Nat) (t a : Int) (met thr : Nat) : Prop := ∀ r m, 1 ≤ m → rlen r = d + m → r / 6 ^ m = c → chk T po to r (d + m) fr (2 ^ fr.toNat) 0 = chk T po to r m t met thr ∧ hps N T L r (d + m) fr a0 = hps N T L r m t a
def gdd (T : Nat → Int) (po : Int) (thr n : Nat) (t : Int) : Prop := (n : Int) < po ∧ ¬ (thr / 2 ^ n % 2 = 1) ∧ 0 ≤ sdP T n t
theorem PV_0 (N T : Nat → Int) (L : List (Nat → Int)) (po fr to a0 : Int) : PVd N T L po fr to a0 0 0 fr a0 (2 ^ fr.toNat) 0 := by
  intro r m _ _ _
  rw [Nat.zero_add]
  exact ⟨rfl, rfl⟩
theorem sd_if {T : Nat → Int} {n : Nat} {t : Int} (h : 0 ≤ sdP T n t) : (if T (5 * n) = t then (0 : Int) else 1) = sdP T n t := by
  unfold sdP at h ⊢
  by_cases c : T (5 * n) = t
  · rw [if_pos c, if_pos c]
  · rw [if_neg c] at h
    rw [if_neg c, if_neg c]
    by_cases c2 : T (5 * n + 1) = t
    · rw [if_pos c2]
    · rw [if_neg c2] at h; omega
theorem PV_dig {r c d m n : Nat} (hn : n < 5) (h1 : rlen r = d + (m + 1)) (h2 : r / 6 ^ m = 6 * c + n + 1) : dg r (rlen r - (m + 1)) = n + 1 := by
  unfold dg
  rw [show rlen r - 1 - (rlen r - (m + 1)) = m by omega, h2]
  omega
theorem PV_up {r c m n : Nat} (hn : n < 5) (h2 : r / 6 ^ m = 6 * c + n + 1) : r / 6 ^ (m + 1) = c := by
  rw [Nat.pow_succ, ← Nat.div_div_eq_div_mul, h2]; omega
/-- the row that ends here -/
theorem PV_V {c d n : Nat} {t a : Int} {met thr : Nat} (hP : PVd N T L po fr to a0 c d t a met thr) (hc : pc c d) (hn : n < 5) (ha : 0 < a) : (gdd T po thr n t ∧ otP T n (sdP T n t) = to → Vr N T L po fr to a0 (6 * c + n + 1) = hpP N T L n (sdP T n t) a) ∧ (¬ (gdd T po thr n t ∧ otP T n (sdP T n t) = to) → Vr N T L po fr to a0 (6 * c + n + 1) = 0) := by
  obtain ⟨r1, r2, r3, r4, r5⟩ := pc_row hc hn
  obtain ⟨p1, p2⟩ := hP (6 * c + n + 1) 1 (by omega) r2 (by rw [Nat.pow_one]; exact r4)
  have e := PV_dig (r := 6 * c + n + 1) (c := c) (d := d) (m := 0) hn r2 (by simp)
  unfold Vr
  rw [r2, p1, p2]
  unfold chk hps chk hps
  rw [e, Nat.add_sub_cancel, Bool.and_true, if_neg (show ¬ a ≤ 0 by omega)]
  unfold gdd
  constructor
  · rintro ⟨⟨g1, g2, g3⟩, g4⟩
    rw [if_pos (decide_eq_true ⟨by omega, g1, g2, g3, by rw [if_pos rfl]; exact g4⟩), sd_if g3]
  · intro g
    rw [if_neg]
    intro q
    obtain ⟨_, g1, g2, g3, g4⟩ := of_decide_eq_true q
    rw [if_pos rfl] at g4
    exact g ⟨⟨g1, g2, g3⟩, g4⟩
/-- rows that go on -/
theorem PV_n {c d n : Nat} {t a : Int} {met thr : Nat} (hP : PVd N T L po fr to a0 c d t a met thr) (hn : n < 5) (ha : 0 < a) {r m : Nat} (hm : 1 ≤ m) (h1 : rlen r = d + 1 + m) (h2 : r / 6 ^ m = 6 * c + n + 1) (hg : ¬ (gdd T po thr n t ∧ ¬ (met / 2 ^ (otP T n (sdP T n t)).toNat % 2 = 1) ∧ otP T n (sdP T n t) ≠ to) ∨ hpP N T L n (sdP T n t) a ≤ 0) : Vr N T L po fr to a0 r ≤ 0 := by
  have h1' : rlen r = d + (m + 1) := by omega
  obtain ⟨p1, p2⟩ := hP r (m + 1) (by omega) h1' (PV_up hn h2)
  have e := PV_dig (r := r) (c := c) (d := d) (m := m) hn h1' h2
  unfold Vr
  rw [h1', p1, p2]
  rw [h1'] at e
  unfold chk hps
  rw [h1', e, Nat.add_sub_cancel, if_neg (show ¬ a ≤ 0 by omega)]
  by_cases cc : (decide (n + 1 ≠ 0 ∧ (n : Int) < po ∧ ¬ (thr / 2 ^ n % 2 = 1) ∧ 0 ≤ sdP T n t ∧ (if m = 0 then otP T n (sdP T n t) = to else ¬ (met / 2 ^ (otP T n (sdP T n t)).toNat % 2 = 1) ∧ otP T n (sdP T n t) ≠ to)) && chk T po to r m (otP T n (sdP T n t)) (ms met (otP T n (sdP T n t)).toNat) (ms thr n)) = true
  · rw [if_pos cc]
    rw [Bool.and_eq_true, decide_eq_true_eq, if_neg (show ¬ m = 0 by omega)] at cc
    rcases hg with hg | hg
    · exact absurd ⟨⟨cc.1.2.1, cc.1.2.2.1, cc.1.2.2.2.1⟩, cc.1.2.2.2.2⟩ hg
    · rw [sd_if cc.1.2.2.2.1]
      obtain ⟨m, rfl⟩ : ∃ x, m = x + 1 := ⟨m - 1, by omega⟩
      unfold hps
      rw [if_pos hg]
      exact hg
  · rw [if_neg cc]; omega
theorem PV_s {c d n : Nat} {t a : Int} {met thr : Nat} (hP : PVd N T L po fr to a0 c d t a met thr) (hn : n < 5) (ha : 0 < a) (hg : gdd T po thr n t ∧ ¬ (met / 2 ^ (otP T n (sdP T n t)).toNat % 2 = 1) ∧ otP T n (sdP T n t) ≠ to) : PVd N T L po fr to a0 (6 * c + n + 1) (d + 1) (otP T n (sdP T n t)) (hpP N T L n (sdP T n t) a) (ms met (otP T n (sdP T n t)).toNat) (ms thr n) := by
  intro r m hm h1 h2
  have h1' : rlen r = d + (m + 1) := by omega
  obtain ⟨p1, p2⟩ := hP r (m + 1) (by omega) h1' (PV_up hn h2)
  have e := PV_dig (r := r) (c := c) (d := d) (m := m) hn h1' h2
  rw [show d + 1 + m = d + (m + 1) by omega, p1, p2]
  constructor
  · rw [chk, e, Nat.add_sub_cancel]
    rw [show (decide (n + 1 ≠ 0 ∧ (n : Int) < po ∧ ¬ (thr / 2 ^ n % 2 = 1) ∧ 0 ≤ sdP T n t ∧ (if m = 0 then otP T n (sdP T n t) = to else ¬ (met / 2 ^ (otP T n (sdP T n t)).toNat % 2 = 1) ∧ otP T n (sdP T n t) ≠ to))) = true from decide_eq_true ⟨by omega, hg.1.1, hg.1.2.1, hg.1.2.2, by rw [if_neg (show ¬ m = 0 by omega)]; exact hg.2⟩]
    exact Bool.true_and _
  · rw [hps, e, Nat.add_sub_cancel, if_neg (show ¬ a ≤ 0 by omega), sd_if hg.1.2.2]
end PV
