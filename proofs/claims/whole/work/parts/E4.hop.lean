/-! rows of pools: one hop, and a row's pools -/
def eT (s : Int) : Int := if s = 0 then 0 else 40
def hpP (N T : Nat → Int) (L : List (Nat → Int)) (p : Nat) (s a : Int) : Int := (swap N T L p s a (eT s) 0).2.2.2.2.1
def sdP (T : Nat → Int) (p : Nat) (t : Int) : Int := if T (5 * p) = t then 0 else if T (5 * p + 1) = t then 1 else -1
def otP (T : Nat → Int) (p : Nat) (s : Int) : Int := if s = 0 then T (5 * p + 1) else T (5 * p)
theorem sdP_r (T : Nat → Int) (p : Nat) (t : Int) : sdP T p t = 0 ∨ sdP T p t = 1 ∨ sdP T p t = -1 := by
  unfold sdP
  split
  · exact Or.inl rfl
  · split
    · exact Or.inr (Or.inl rfl)
    · exact Or.inr (Or.inr rfl)
section HO
variable {M : MZ} {N T : Nat → Int} {L : List (Nat → Int)} {th pe po : Int}
theorem hp_b {p : Nat} {s a : Int} (hp : p < 5) (hq : (p : Int) < po) (hs : s = 0 ∨ s = 1) : Pbg p po s (eT s) 0 := ⟨hp, hq, hs, Or.inl rfl, by unfold eT; split <;> omega⟩
theorem hpP_r (W : WF N T L th pe po) (h12 : L.length ≤ 12) {p : Nat} (hp : p < 5) (hq : (p : Int) < po) {s a : Int} (hs : s = 0 ∨ s = 1) (ha : 0 < a ∧ a ≤ 10000000000) : 0 ≤ hpP N T L p s a ∧ hpP N T L p s a ≤ 9000000000 := swap_gone W h12 (hp_b (a := a) hp hq hs) ha
theorem R_hop (R : RepR M N T L th pe po) (K : KON M) (W : WF N T L th pe po) {p : Nat} (hp : p < 5) (hq : (p : Int) < po) {s a : Int} (hs : s = 0 ∨ s = 1) (ha : 0 < a ∧ a ≤ 10000000000) : ∃ M', g_X12_hop p s a M = some (hpP N T L p s a, M') ∧ RepR M' N T L th pe po ∧ KON M' ∧ FrO M M' := by
  obtain ⟨M1, k1, k2, k3, k4, k5⟩ := R_keepR R K (lv := 0) (by omega)
  have k1' : g_X12_keeps 0 M = some ((), M1) := k1
  obtain ⟨M2, c1, c2, c3, c4, c5, c6, c7⟩ := R_swaps k2 k3 W (hp_b (a := a) hp hq hs) ha
  obtain ⟨M3, l1, l2, l3⟩ := R_laysBack (lv := 0) (by omega) M2
  have l1' : g_X12_laysBack 0 M2 = some ((), M3) := l1
  refine ⟨M3, ?_, R.back k4 k5 (fun k hk => c5.2.1 k (by omega)) (c5.1 22 (by omega) (by omega)) (fun k _ _ => (c5.1 24 (by omega) (by omega) k).2.1) l2 l3, c4.mv (fun x hx => l2 x (by omega)), fun x h1 h2 h3 => ((k4 x h3).trans (c5.1 x h1 h2)).trans (l2 x h2), fun k hk => ?_, fun k hk => ?_, fun k hk => ?_⟩
  · unfold g_X12_hop
    rw [k1']
    simp only [bindS]
    rw [R_endOf]
    simp only [bindS]
    have c1' : g_X12_swaps p s a (if s = 0 then 0 else 40) 0 M1 = some ((), M2) := c1
    rw [c1']
    simp only [bindS]
    rw [l1']
    simp only [bindS]
    rw [(l2 20 (by omega) 31).2.1, c2.2.2.2.1]
    rfl
  · rw [(l2 20 (by omega) k).1, c5.2.1 k hk, (k4 20 (by omega) k).1]
  · rw [(l2 20 (by omega) k).2.1, c5.2.2 k hk, (k4 20 (by omega) k).2.1]
  · rw [(l2 24 (by omega) k).2.1, (c5.1 24 (by omega) (by omega) k).2.1, k5 k, if_neg (by omega)]
end HO
/-- masks -/
theorem mk_get : ∀ m, m < 32 → ∀ t, t < 5 → and32 (shr32 ((m : Nat) : Int) (and32 ((t : Nat) : Int) 31)) 1 = if m / 2 ^ t % 2 = 1 then 1 else 0 := by decide +kernel
theorem mk_set : ∀ m, m < 32 → ∀ t, t < 5 → or32 ((m : Nat) : Int) (shl32 1 (and32 ((t : Nat) : Int) 31)) = ((if m / 2 ^ t % 2 = 1 then m else m + 2 ^ t : Nat) : Int) := by decide +kernel
theorem mk_one : ∀ t, t < 5 → shl32 1 (and32 ((t : Nat) : Int) 31) = ((2 ^ t : Nat) : Int) := by decide +kernel
theorem mk_lt : ∀ m, m < 32 → ∀ t, t < 5 → (if m / 2 ^ t % 2 = 1 then m else m + 2 ^ t) < 32 := by decide +kernel
theorem mk_has : ∀ m, m < 32 → ∀ t, t < 5 → ∀ u, u < 5 → ((if m / 2 ^ t % 2 = 1 then m else m + 2 ^ t) / 2 ^ u % 2 = 1 ↔ m / 2 ^ u % 2 = 1 ∨ u = t) := by decide +kernel
theorem mk_has1 : ∀ t, t < 5 → ∀ u, u < 5 → (2 ^ t / 2 ^ u % 2 = 1 ↔ u = t) := by decide +kernel
/-- a row's length and pools -/
def rlen (r : Nat) : Nat := if r < 6 then 1 else if r < 36 then 2 else 3
def rpl (r k : Nat) : Int := ((r / 6 ^ (rlen r - 1 - k) % 6 : Nat) : Int) - 1
theorem R_lengthOf (r : Nat) (M : MZ) : g_X12_lengthOf r M = some ((rlen r : Int), M) := by
  unfold g_X12_lengthOf g_X12_lengthOf_21 rlen
  by_cases c1 : r < 6
  · rw [if_neg (by omega), if_pos c1]; rfl
  · rw [if_pos (by omega), if_neg c1]
    by_cases c2 : r < 36
    · rw [if_neg (by omega), if_pos c2]; rfl
    · rw [if_pos (by omega), if_neg c2]; rfl
theorem R_poolIn {r k : Nat} (hr : r < 216) (hk : k < rlen r) (M : MZ) : g_X12_poolIn r k M = some (rpl r k, M) := by
  have hl : rlen r ≤ 3 ∧ 1 ≤ rlen r := by unfold rlen; split <;> (try split) <;> omega
  have lp : ∀ (d j f v : Nat), j ≤ 3 → k + d = j → d < f → v < 216 → g_X12_poolIn_9 f k v j M = some (((v / 6 ^ d % 6 : Nat) : Int) - 1, M) := by
    intro d
    induction d with
    | zero =>
      intro j f v hj3 hj hf hv
      obtain ⟨f, rfl⟩ : ∃ g, f = g + 1 := ⟨f - 1, by omega⟩
      have e : g_X12_poolIn_9 (f + 1) k v j M = g_X12_poolIn_9B (g_X12_poolIn_9 f) k v j M := rfl
      rw [e]
      unfold g_X12_poolIn_9B
      rw [if_pos (by omega), Int.tmod_eq_emod_of_nonneg (by omega), w32_id (by omega) (by omega)]
      rw [show (6 : Nat) ^ 0 = 1 from rfl, Nat.div_one]
      congr 1
    | succ d ih =>
      intro j f v hj3 hj hf hv
      obtain ⟨f, rfl⟩ : ∃ g, f = g + 1 := ⟨f - 1, by omega⟩
      have e : g_X12_poolIn_9 (f + 1) k v j M = g_X12_poolIn_9B (g_X12_poolIn_9 f) k v j M := rfl
      rw [e]
      unfold g_X12_poolIn_9B g_X12_poolIn_19
      rw [if_neg (by omega), Int.tdiv_eq_ediv_of_nonneg (by omega), w32_id (x := (v : Int) / 6) (by omega) (by omega), show (v : Int) / 6 = ((v / 6 : Nat) : Int) by omega]
      obtain ⟨j, rfl⟩ : ∃ g, j = g + 1 := ⟨j - 1, by omega⟩
      rw [w32_id (x := ((j + 1 : Nat) : Int) + -1) (by omega) (by omega), show ((j + 1 : Nat) : Int) + -1 = (j : Int) by omega, ih j f (v / 6) (by omega) (by omega) (by omega) (by omega), Nat.pow_succ, Nat.mul_comm, Nat.div_div_eq_div_mul]
  unfold g_X12_poolIn
  rw [R_lengthOf]
  simp only [bindS]
  rw [w32_id (by omega) (by omega), show ((rlen r : Int) - 1) = ((rlen r - 1 : Nat) : Int) by omega]
  exact lp (rlen r - 1 - k) (rlen r - 1) 100000 r (by omega) (by omega) (by omega) hr
