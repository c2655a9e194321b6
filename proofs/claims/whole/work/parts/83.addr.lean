/-! add, the reference's half -/
section AR
variable {M : MZ} {N T : Nat → Int} {L : List (Nat → Int)} {th pe po : Int}
theorem RepR.cg {L' : List (Nat → Int)} (R : RepR M N T L th pe po) (hl : L'.length = L.length) (h : ∀ i, i < L.length → ∀ w, w < 10 → L'.getD i d0 w = L.getD i d0 w) : RepR M N T L' th pe po := by
  obtain ⟨a, hT, hN, hn, hL, h12⟩ := R
  exact ⟨a, hT, hN, by rw [hl]; exact hn, fun i hi w hw => by rw [hl] at hi; rw [h i hi w hw]; exact hL i hi w hw, by rw [hl]; exact h12⟩
theorem RepR.push (R : RepR M N T L th pe po) (hn : L.length < 12) : RepR (uL M 23 137 ((L.length : Int) + 1)) N T (L ++ [fun w => zL M 23 (138 + 10 * L.length + w)]) th pe po := by
  obtain ⟨a, hT, hN, h137, hL, h12⟩ := R
  refine ⟨a, hT, fun j hj => ?_, ?_, fun i hi w hw => ?_, by rw [len_app]; omega⟩
  · rw [zL_uL, if_neg (by omega)]; exact hN j hj
  · rw [zL_at, len_app]; omega
  · rw [len_app] at hi
    rw [zL_uL, if_neg (by omega), getD_app]
    by_cases c : i < L.length
    · rw [if_pos c]; exact hL i c w hw
    · rw [if_neg c, if_pos (by omega), show i = L.length by omega]
theorem set_app {s x : Nat → Int} : (L ++ [s]).set L.length x = L ++ [x] := by
  rw [List.set_append_right L.length x (Nat.le_refl _), Nat.sub_self]
  rfl
theorem RepR.last {s : Nat → Int} (R : RepR M N T (L ++ [s]) th pe po) {w : Nat} (hw : w < 10) (v : Int) : RepR (uL M 23 (138 + 10 * L.length + w) v) N T (L ++ [ud s w v]) th pe po := by
  have := R.stake (i := L.length) (w := w) (by rw [len_app]; omega) hw v
  rw [getD_app, if_neg (by omega), if_pos rfl, set_app] at this
  exact this
/-- purses hold so much: the two looks -/
theorem R_add_look (R : RepR M N T L th pe po) (K : KON M) {p per : Nat} (hp : p < 5) (hper : per < 4) (ht : T2 T p) (hRz : Rzz (N (22 + 23 * p)) (N (22 + 23 * p + 1))) {l lo hi : Int} (hl : 1 ≤ l ∧ l ≤ 99999) (htk : 0 ≤ lo ∧ lo < hi ∧ hi ≤ 40) (au s : Int) :
    (¬ (lie (N (22 + 23 * p)) (N (22 + 23 * p + 1)) l lo hi 0 1 ≤ N (uc T p 0 per) ∧ lie (N (22 + 23 * p)) (N (22 + 23 * p + 1)) l lo hi 1 1 ≤ N (uc T p 1 per)) → g_X12_adds_105 per p lo hi au l s M = some (-1, M)) ∧
    ((lie (N (22 + 23 * p)) (N (22 + 23 * p + 1)) l lo hi 0 1 ≤ N (uc T p 0 per) ∧ lie (N (22 + 23 * p)) (N (22 + 23 * p + 1)) l lo hi 1 1 ≤ N (uc T p 1 per)) → g_X12_adds_105 per p lo hi au l s M = (if 0 ≤ s then (g_X12_adds_247 per p lo hi l s M) else ((g_X12_stakes M).bind fun q158 => (g_X12_adds_178 100000 per p lo hi au l q158.1 0 (uL q158.2 23 137 (w64 ((zL q158.2 23 137) + 1))))))) := by
  obtain ⟨t0, x0⟩ := zR_nat ht.1.1
  obtain ⟨t1, x1⟩ := zR_nat ht.2.1.1
  have h5 : t0 < 5 := by have := ht.1; omega
  have h6 : t1 < 5 := by have := ht.2.1; omega
  have eu0 : uc T p 0 per = 2 + (5 * per + t0) := by
    show 2 + (5 * per + (T (5 * p)).toNat) = _
    rw [x0, Int.toNat_natCast]
  have eu1 : uc T p 1 per = 2 + (5 * per + t1) := by
    show 2 + (5 * per + (T (5 * p + 1)).toNat) = _
    rw [x1, Int.toNat_natCast]
  have y0 := R_liesIn R K hp (l := l) (lo := lo) (hi := hi) hRz (by omega) htk (k := 0) (Or.inl rfl) 1
  have y1 := R_liesIn R K hp (l := l) (lo := lo) (hi := hi) hRz (by omega) htk (k := 1) (Or.inr rfl) 1
  have k0 : g_X12_thingOf p 0 M = some ((t0 : Int), M) := by rw [R_thingOf hp (by omega) (by omega), R.2.1 _ (by omega), ← x0]; rfl
  have k1 : g_X12_thingOf p 1 M = some ((t1 : Int), M) := by rw [R_thingOf hp (by omega) (by omega), R.2.1 _ (by omega), ← x1]; rfl
  have q0 : g_X12_inPurse per t0 M = some (N (uc T p 0 per), M) := by rw [R_inPurse hper h5, R.2.2.1 _ (by omega), eu0]
  have q1 : g_X12_inPurse per t1 M = some (N (uc T p 1 per), M) := by rw [R_inPurse hper h6, R.2.2.1 _ (by omega), eu1]
  have e : ∀ (f : Nat) (k : Int), g_X12_adds_108 (f + 1) per p lo hi au l s k M = g_X12_adds_108B (g_X12_adds_108 f) per p lo hi au l s k M := fun _ _ => rfl
  have s0 : ∀ f : Nat, g_X12_adds_108 (f + 1) per p lo hi au l s 0 M = if lie (N (22 + 23 * p)) (N (22 + 23 * p + 1)) l lo hi 0 1 ≤ N (uc T p 0 per) then g_X12_adds_108 f per p lo hi au l s 1 M else some (-1, M) := by
    intro f
    rw [e]
    unfold g_X12_adds_108B
    rw [if_neg (by omega), w32_id (x := 0 + 1) (by omega) (by omega), show (0 + 1 : Int) = 1 from rfl]
    simp only [y0, k0, q0, bindS]
  have s1 : ∀ f : Nat, g_X12_adds_108 (f + 1) per p lo hi au l s 1 M = if lie (N (22 + 23 * p)) (N (22 + 23 * p + 1)) l lo hi 1 1 ≤ N (uc T p 1 per) then g_X12_adds_108 f per p lo hi au l s 2 M else some (-1, M) := by
    intro f
    rw [e]
    unfold g_X12_adds_108B
    rw [if_neg (by omega), w32_id (x := 1 + 1) (by omega) (by omega), show (1 + 1 : Int) = 2 from rfl]
    simp only [y1, k1, q1, bindS]
  have s2 : ∀ f : Nat, g_X12_adds_108 (f + 1) per p lo hi au l s 2 M = (if 0 ≤ s then (g_X12_adds_247 per p lo hi l s M) else ((g_X12_stakes M).bind fun q158 => (g_X12_adds_178 100000 per p lo hi au l q158.1 0 (uL q158.2 23 137 (w64 ((zL q158.2 23 137) + 1)))))) := by
    intro f
    rw [e]
    unfold g_X12_adds_108B
    rw [if_pos (by omega)]
  have hst : g_X12_adds_105 per p lo hi au l s M = g_X12_adds_108 (99999 + 1) per p lo hi au l s 0 M := rfl
  rw [hst, s0]
  refine ⟨fun hn => ?_, fun hg => ?_⟩
  · split
    · rw [show 99999 = 99998 + 1 from rfl, s1, if_neg (by omega)]
    · rfl
  · rw [if_pos hg.1, show 99999 = 99998 + 1 from rfl, s1, if_pos hg.2, show 99998 = 99997 + 1 from rfl, s2]
/-- settled, more liquidity, and what it costs -/
theorem R_add_end (R : RepR M N T L th pe po) (K : KON M) {p per i : Nat} (hi' : i < L.length) (hp : p < 5) (hper : per < 4) (ht : T2 T p) (hRz : Rzz (N (22 + 23 * p)) (N (22 + 23 * p + 1))) {l lo hi : Int} (hl : 1 ≤ l ∧ l ≤ 99999) (htk : 0 ≤ lo ∧ lo < hi ∧ hi ≤ 40) (h5 : 0 ≤ L.getD i d0 5 ∧ L.getD i d0 5 ≤ 999999) : ∃ M', g_X12_adds_247 per p lo hi l i M = some ((i : Int), M') ∧ RepR M' (adN N T p per l lo hi) T (L.set i (ud (stl (L.getD i d0)) 5 (L.getD i d0 5 + l))) th pe po ∧ Fr23 M M' := by
  have h12 := R.2.2.2.2.2
  obtain ⟨M1, a1, R1, F1⟩ := R_settles R hi'
  generalize es : L.getD i d0 = s at *
  have hl1 : i < (L.set i (stl s)).length := by rw [List.length_set]; exact hi'
  have g1 : (L.set i (stl s)).getD i d0 = stl s := by rw [getD_set hi', if_pos rfl]
  have o5 : g_X12_ofStake i 5 M1 = some (s 5, M1) := by rw [R_stk R1 hl1 (by omega) (by omega), g1]; rfl
  have R2 := R1.stake2 hi' (w := 5) (by omega) (s 5 + l)
  have K2 : KON (uL M1 23 (138 + 10 * i + 5) (s 5 + l)) := (K.f23 F1).f23 Fr23_u
  have y0 := R_liesIn R2 K2 hp (l := l) (lo := lo) (hi := hi) hRz (by omega) htk (k := 0) (Or.inl rfl) 1
  obtain ⟨M3, a3, R3, F3⟩ := R_goesOut R2 (k := 0) hp (by omega) hper ht.1 (w64 (-lie (N (22 + 23 * p)) (N (22 + 23 * p + 1)) l lo hi 0 1))
  have a3' : g_X12_goesOut p per 0 (w64 (-lie (N (22 + 23 * p)) (N (22 + 23 * p + 1)) l lo hi 0 1)) (uL M1 23 (138 + 10 * i + 5) (s 5 + l)) = some ((), M3) := a3
  have K3 := K2.f23 F3
  have er0 : gOut N T p 0 per (w64 (-lie (N (22 + 23 * p)) (N (22 + 23 * p + 1)) l lo hi 0 1)) (22 + 23 * p) = N (22 + 23 * p) := gOut_rz (by omega) hper ht.1 p (w := 0) (by omega) (Or.inl (by omega))
  have er1 : gOut N T p 0 per (w64 (-lie (N (22 + 23 * p)) (N (22 + 23 * p + 1)) l lo hi 0 1)) (22 + 23 * p + 1) = N (22 + 23 * p + 1) := gOut_rz (by omega) hper ht.1 p (w := 1) (by omega) (Or.inl (by omega))
  have y1 := R_liesIn R3 K3 hp (l := l) (lo := lo) (hi := hi) (by rw [er0, er1]; exact hRz) (by omega) htk (k := 1) (Or.inr rfl) 1
  rw [er0, er1] at y1
  obtain ⟨M4, a4, R4, F4⟩ := R_goesOut R3 (k := 1) hp (by omega) hper ht.2.1 (w64 (-lie (N (22 + 23 * p)) (N (22 + 23 * p + 1)) l lo hi 1 1))
  have a4' : g_X12_goesOut p per 1 (w64 (-lie (N (22 + 23 * p)) (N (22 + 23 * p + 1)) l lo hi 1 1)) M3 = some ((), M4) := a4
  have gw : ∀ (N : Nat → Int) (k : Nat) (v : Int), gOut N T p k per (w64 v) = gOut N T p k per v := by
    intro N k v
    have d := w64_d v
    funext j
    unfold gOut
    split
    · rw [w64_iff]; omega
    · split
      · rw [w64_iff]; omega
      · rfl
  rw [gw, gw] at R4
  refine ⟨M4, ?_, R4, ((F1.trans Fr23_u).trans F3).trans F4⟩
  have e : ∀ (f : Nat) (k : Int) (M : MZ), g_X12_adds_274 (f + 1) per p lo hi l i k M = g_X12_adds_274B (g_X12_adds_274 f) per p lo hi l i k M := fun _ _ _ => rfl
  have s0 : ∀ f : Nat, g_X12_adds_274 (f + 1) per p lo hi l i 0 (uL M1 23 (138 + 10 * i + 5) (s 5 + l)) = g_X12_adds_274 f per p lo hi l i 1 M3 := by
    intro f
    rw [e]
    unfold g_X12_adds_274B
    rw [if_neg (by omega), w32_id (x := 0 + 1) (by omega) (by omega), show (0 + 1 : Int) = 1 from rfl]
    simp only [y0, a3', bindS]
  have s1 : ∀ f : Nat, g_X12_adds_274 (f + 1) per p lo hi l i 1 M3 = g_X12_adds_274 f per p lo hi l i 2 M4 := by
    intro f
    rw [e]
    unfold g_X12_adds_274B
    rw [if_neg (by omega), w32_id (x := 1 + 1) (by omega) (by omega), show (1 + 1 : Int) = 2 from rfl]
    simp only [y1, a4', bindS]
  have s2 : ∀ f : Nat, g_X12_adds_274 (f + 1) per p lo hi l i 2 M4 = some ((i : Int), M4) := by
    intro f
    rw [e]
    unfold g_X12_adds_274B
    rw [if_pos (by omega)]
  unfold g_X12_adds_247
  rw [a1]
  simp only [bindS]
  rw [o5]
  simp only [bindS]
  rw [w64_id (x := s 5 + l) (by omega) (by omega), R_setStake (by omega) (by omega) (by omega)]
  simp only [bindS]
  exact (s0 99999).trans ((s1 99998).trans (s2 99997))
theorem R_zero_loop {p per : Int} {lo hi au l : Int} : ∀ (d k f : Nat), k + d = 10 → d < f → L.length < 12 → ∀ (M : MZ) (s : Nat → Int), RepR M N T (L ++ [s]) th pe po → (∀ w, w < k → s w = 0) → ∃ (M' : MZ) (s' : Nat → Int), g_X12_adds_178 f per p lo hi au l L.length k M = ((g_X12_setStake L.length 0 per M').bind fun q206 => ((g_X12_setStake L.length 1 p q206.2).bind fun q215 => ((g_X12_setStake L.length 2 lo q215.2).bind fun q224 => ((g_X12_setStake L.length 3 hi q224.2).bind fun q234 => ((g_X12_setStake L.length 4 au q234.2).bind fun q244 => (g_X12_adds_247 per p lo hi l L.length q244.2)))))) ∧ RepR M' N T (L ++ [s']) th pe po ∧ (∀ w, w < 10 → s' w = 0) ∧ Fr23 M M' := by
  intro d
  induction d with
  | zero =>
    intro k f hk hf hn M s R hz
    obtain ⟨f, rfl⟩ : ∃ g, f = g + 1 := ⟨f - 1, by omega⟩
    refine ⟨M, s, ?_, R, fun w hw => hz w (by omega), Fr23.rfl⟩
    have e : g_X12_adds_178 (f + 1) per p lo hi au l L.length k M = g_X12_adds_178B (g_X12_adds_178 f) per p lo hi au l L.length k M := rfl
    rw [e]
    unfold g_X12_adds_178B
    rw [if_pos (by omega)]
  | succ d ih =>
    intro k f hk hf hn M s R hz
    obtain ⟨f, rfl⟩ : ∃ g, f = g + 1 := ⟨f - 1, by omega⟩
    obtain ⟨M', s', h1, h2, h3, h4⟩ := ih (k + 1) f (by omega) (by omega) hn _ _ (R.last (w := k) (by omega) 0) (fun w hw => by
      by_cases c : w = k
      · subst c; exact ud_at _ _ _
      · rw [ud_ne c]; exact hz w (by omega))
    refine ⟨M', s', ?_, h2, h3, Fr23_u.trans h4⟩
    have e : g_X12_adds_178 (f + 1) per p lo hi au l L.length k M = g_X12_adds_178B (g_X12_adds_178 f) per p lo hi au l L.length k M := rfl
    rw [e]
    unfold g_X12_adds_178B
    rw [if_neg (by omega), R_setStake hn (by omega) (by omega), Int.toNat_natCast]
    simp only [bindS]
    rw [w32_id (x := (k : Int) + 1) (by omega) (by omega), show (k : Int) + 1 = ((k + 1 : Nat) : Int) by omega]
    exact h1
theorem R_add_new (R : RepR M N T L th pe po) (K : KON M) (hn : L.length < 12) {p per : Nat} (hp : p < 5) (hper : per < 4) (ht : T2 T p) (hRz : Rzz (N (22 + 23 * p)) (N (22 + 23 * p + 1))) {l lo hi au : Int} (hl : 1 ≤ l ∧ l ≤ 99999) (htk : 0 ≤ lo ∧ lo < hi ∧ hi ≤ 40) : ∃ M', ((g_X12_stakes M).bind fun q158 => (g_X12_adds_178 100000 per p lo hi au l q158.1 0 (uL q158.2 23 137 (w64 ((zL q158.2 23 137) + 1))))) = some ((L.length : Int), M') ∧ RepR M' (adN N T p per l lo hi) T (L ++ [nst per p lo hi au l]) th pe po ∧ Fr23 M M' := by
  have h137 := R.2.2.2.1
  obtain ⟨M1, s', h1, R1, h3, F1⟩ := R_zero_loop (p := p) (per := per) (lo := lo) (hi := hi) (au := au) (l := l) 10 0 100000 (by omega) (by omega) hn _ _ (R.push hn) (fun w hw => by omega)
  have R2 := (((((R1.last (w := 0) (by omega) per).last (w := 1) (by omega) p).last (w := 2) (by omega) lo).last (w := 3) (by omega) hi).last (w := 4) (by omega) au)
  have F2 : Fr23 M (uL (uL (uL (uL (uL M1 23 (138 + 10 * L.length + 0) per) 23 (138 + 10 * L.length + 1) p) 23 (138 + 10 * L.length + 2) lo) 23 (138 + 10 * L.length + 3) hi) 23 (138 + 10 * L.length + 4) au) := (((((Fr23_u.trans F1).trans Fr23_u).trans Fr23_u).trans Fr23_u).trans Fr23_u).trans Fr23_u
  have gl : (L ++ [ud (ud (ud (ud (ud s' 0 per) 1 p) 2 lo) 3 hi) 4 au]).getD L.length d0 = ud (ud (ud (ud (ud s' 0 per) 1 p) 2 lo) 3 hi) 4 au := by
    rw [getD_app, if_neg (by omega), if_pos rfl]
  have e5 : ud (ud (ud (ud (ud s' 0 per) 1 p) 2 lo) 3 hi) 4 au 5 = 0 := h3 5 (by omega)
  obtain ⟨M3, a3, R3, F3⟩ := R_add_end R2 (K.f23 F2) (i := L.length) (by rw [len_app]; omega) hp hper ht hRz hl htk (by rw [gl, e5]; omega)
  rw [gl, set_app] at R3
  refine ⟨M3, ?_, ?_, F2.trans F3⟩
  · rw [R_stakes R]
    simp only [bindS]
    rw [h137, w64_id (by omega) (by omega)]
    have h1' : g_X12_adds_178 100000 per p lo hi au l L.length 0 (uL M 23 137 ((L.length : Int) + 1)) = _ := h1
    rw [h1', R_setStake hn (by omega) (by omega)]
    simp only [bindS]
    rw [R_setStake hn (by omega) (by omega)]
    simp only [bindS]
    rw [R_setStake hn (by omega) (by omega)]
    simp only [bindS]
    rw [R_setStake hn (by omega) (by omega)]
    simp only [bindS]
    rw [R_setStake hn (by omega) (by omega)]
    simp only [bindS]
    exact a3
  · refine R3.cg (by rw [len_app, len_app]) (fun i hi' w hw => ?_)
    rw [getD_app, getD_app]
    by_cases c : i < L.length
    · rw [if_pos c, if_pos c]
    · rw [if_neg c, if_neg c]
      rw [len_app] at hi'
      rw [if_pos (by omega), if_pos (by omega)]
      have ow : ∀ k, k < 2 → owd (ud (ud (ud (ud (ud s' 0 per) 1 p) 2 lo) 3 hi) 4 au) k = 0 := by
        intro k hk
        have q8 : ud (ud (ud (ud (ud s' 0 per) 1 p) 2 lo) 3 hi) 4 au (8 + k) = 0 := by
          rw [ud_ne (by omega), ud_ne (by omega), ud_ne (by omega), ud_ne (by omega), ud_ne (by omega)]
          exact h3 _ (by omega)
        unfold owd
        rw [q8, e5, Int.zero_mul]
        rfl
      have q0 := ow 0 (by omega)
      have q1 := ow 1 (by omega)
      have z6 := h3 6 (by omega)
      have : w = 0 ∨ w = 1 ∨ w = 2 ∨ w = 3 ∨ w = 4 ∨ w = 5 ∨ w = 6 ∨ w = 7 ∨ w = 8 ∨ w = 9 := by omega
      rcases this with rfl | rfl | rfl | rfl | rfl | rfl | rfl | rfl | rfl | rfl
      · rfl
      · rfl
      · rfl
      · rfl
      · rfl
      · show l = ud (ud (ud (ud (ud s' 0 per) 1 p) 2 lo) 3 hi) 4 au 5 + l
        rw [e5]; omega
      · rfl
      · rfl
      · exact q0.symm
      · exact q1.symm
end AR
