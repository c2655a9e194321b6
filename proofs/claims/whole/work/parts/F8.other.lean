/-! what a swap, a take, a share leaves alone of other pools -/
section OT
variable {N T : Nat → Int} {L : List (Nat → Int)} {th pe po : Int}
theorem dep_dr {p q : Nat} (hne : q ≠ p) (side tick y : Int) : ∀ L : List (Nat → Int), dep (drL p side tick L) q y = dep L q y := by
  intro L
  unfold dep drL
  induction L with
  | nil => rfl
  | cons s l ih =>
    rw [List.filter_cons]
    by_cases c : dq p side tick s = true
    · have hn : nq p side tick s = false := by unfold nq; rw [c]; rfl
      obtain ⟨d1, _⟩ := of_decide_eq_true c
      rw [hn, if_neg (by decide), ih]
      show _ = dpf q y s + sumL (dpf q y) l
      have : dpf q y s = 0 := by unfold dpf; rw [if_neg (by omega)]
      omega
    · have hn : nq p side tick s = true := by unfold nq; simpa using c
      rw [hn, if_pos rfl]
      show dpf q y s + _ = dpf q y s + _
      rw [ih]
/-- of another pool: zone, root, depth -/
def Oth (q : Nat) (N N' : Nat → Int) (L L' : List (Nat → Int)) : Prop := N' (22 + 23 * q + 1) = N (22 + 23 * q + 1) ∧ ∀ y : Int, dep L' q y = dep L q y
theorem Oth.trans {q : Nat} {N N' N'' : Nat → Int} {L L' L'' : List (Nat → Int)} (a : Oth q N N' L L') (b : Oth q N' N'' L' L'') : Oth q N N'' L L'' := ⟨b.1.trans a.1, fun y => (b.2 y).trans (a.2 y)⟩
theorem xN_oth (W : WF N T L th pe po) (h12 : L.length ≤ 12) {p q : Nat} (hne : q ≠ p) {side e o left : Int} (h : Pgo N T L p po side e o left) : Oth q N (xN N T L p side e o left) L (xL N T L p side e o left) := by
  have hp := h.1
  have hq := h.2.1
  obtain ⟨_, hk2⟩ := xk_r h.2.2.1
  have hpe := W.1.r
  have ht := W.t2 hp hq
  have e2 : x2 N T L p side e o left (22 + 23 * q + 1) = N (22 + 23 * q + 1) := x2_at (by unfold hc; omega) (by unfold hc; omega) (by omega) (by unfold hoC; omega) (by omega) (by omega)
  have e3 : ∀ y : Int, dep (xL1 N T L p side e o left) q y = dep L q y := fun y => dep_shR ..
  have W2 := x2_WF W h12 h
  unfold xN xL
  by_cases c : xC N T L p side e o left = true
  · rw [if_pos c, if_pos c]
    refine ⟨?_, fun y => ?_⟩
    · rw [(drN_rz ht side _ _ _ W2.2.2 (by omega) _).1 q 1 (by omega) (by omega)]
      exact e2
    · rw [dep_dr hne]
      exact e3 y
  · rw [if_neg c, if_neg c]
    exact ⟨e2, e3⟩
theorem swp_oth {p q : Nat} (hne : q ≠ p) {side e o : Int} (hb : Pbg p po side e o) : ∀ (n : Nat) (ae : Bool) (s : SW), WF s.1 T s.2.1 th pe po → s.2.1.length ≤ 12 → Pae p side e ae s → Oth q s.1 (swp T p side e o n ae s).1 s.2.1 (swp T p side e o n ae s).2.1 := by
  intro n
  induction n with
  | zero => intro ae s W h12 ha; exact ⟨rfl, fun _ => rfl⟩
  | succ n ih =>
    intro ae s W h12 ha
    have e2 : swp T p side e o (n + 1) ae s = if s.2.2.1 ≤ 0 ∨ ae = true then s else swp T p side e o n (xE s.1 T s.2.1 p side e o s.2.2.1) (swS T p side e o s) := rfl
    rw [e2]
    by_cases c : s.2.2.1 ≤ 0 ∨ ae = true
    · rw [if_pos c]; exact ⟨rfl, fun _ => rfl⟩
    · rw [if_neg c]
      have hgo := Pgo_of (T := T) hb ha c
      obtain ⟨w1, w2, w3, w4⟩ := swS_next hb ha c W h12
      have h1 := xN_oth W h12 hne hgo
      have h2 := ih _ _ w1 w2 w3
      exact h1.trans h2
theorem swap_oth (W : WF N T L th pe po) (h12 : L.length ≤ 12) (hk : ∀ p : Nat, p < 5 → (p : Int) < po → Mrk N p) {p q : Nat} (hne : q ≠ p) {side e o amount : Int} (hb : Pbg p po side e o) (ha : 0 < amount ∧ amount ≤ 10000000000) : Oth q N (swap (mkN N p) T L p side amount e o).1 L (swap (mkN N p) T L p side amount e o).2.1 := by
  have m := hk p hb.1 hb.2.1
  have h := swp_oth (T := T) (th := th) (pe := pe) hne hb 50 (ae0 (mkN N p) p side e) (mkN N p, L, amount, 0, 0, 0, 0) (W.mk m) h12 ⟨fun q => ae0_ge hb.2.2.1 q, by show 0 ≤ amount ∧ amount ≤ 10000000000; omega⟩
  have e1 : mkN N p (22 + 23 * q + 1) = N (22 + 23 * q + 1) := mkN_at m (by omega)
  refine ⟨?_, h.2⟩
  rw [← e1]
  exact h.1
theorem dep_erase {q : Nat} {y : Int} : ∀ (L : List (Nat → Int)) (i : Nat), i < L.length → L.getD i d0 1 ≠ (q : Int) → dep (L.eraseIdx i) q y = dep L q y := by
  intro L
  unfold dep
  induction L with
  | nil => intro i hi; cases hi
  | cons s l ih =>
    intro i hi hne
    cases i with
    | zero =>
      show sumL (dpf q y) l = dpf q y s + sumL (dpf q y) l
      have hne' : s 1 ≠ (q : Int) := hne
      have : dpf q y s = 0 := by unfold dpf; rw [if_neg (fun z => hne' z.1)]
      omega
    | succ j =>
      have := ih j (by simpa using hi) hne
      show dpf q y s + sumL (dpf q y) (l.eraseIdx j) = dpf q y s + sumL (dpf q y) l
      omega
end OT
