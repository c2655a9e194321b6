/-! stakes that are dropped by themselves -/
def dq (p : Nat) (side tick : Int) (s : Nat → Int) : Bool := decide (s 1 = p ∧ (if side = 0 then s 4 = 2 ∧ s 2 = tick else s 4 = 1 ∧ s 3 = tick))
def nq (p : Nat) (side tick : Int) (s : Nat → Int) : Bool := !dq p side tick s
def drA (r z : Int) (s : Nat → Int) (k : Nat) : Int := lie r z (s 5) (s 2) (s 3) k 0 + owd s k
def drS (T : Nat → Int) (p : Nat) (side tick r z : Int) (s : Nat → Int) (N : Nat → Int) : Nat → Int := if dq p side tick s then gO2 N T p (s 0).toNat (drA r z s 0) (drA r z s 1) else N
def drN (T : Nat → Int) (p : Nat) (side tick r z : Int) (N : Nat → Int) (L : List (Nat → Int)) : Nat → Int := L.foldr (drS T p side tick r z) N
def drL (p : Nat) (side tick : Int) (L : List (Nat → Int)) : List (Nat → Int) := L.filter (nq p side tick)
def gD (T : Nat → Int) (p per : Nat) (a b : Int) (j : Nat) : Int := (if j = hc p 0 then -a else 0) + (if j = hc p 1 then -b else 0) + (if j = uc T p 0 per then a else 0) + (if j = uc T p 1 per then b else 0)
theorem gO2_D {N T : Nat → Int} {p per : Nat} (hper : per < 4) (ht : T2 T p) (a b : Int) (j : Nat) : gO2 N T p per a b j = if (j = hc p 0 ∨ j = hc p 1 ∨ j = uc T p 0 per ∨ j = uc T p 1 per) then w64 (N j + gD T p per a b j) else N j := by
  have eu0 : uc T p 0 per = 2 + (5 * per + (T (5 * p)).toNat) := rfl
  have eu1 : uc T p 1 per = 2 + (5 * per + (T (5 * p + 1)).toNat) := rfl
  have eh0 : hc p 0 = 22 + 23 * p + 2 := rfl
  have eh1 : hc p 1 = 22 + 23 * p + 3 := rfl
  obtain ⟨t0, t1, t2⟩ := ht
  unfold gO2 gOut gD
  by_cases c1 : j = hc p 1
  · have x1 : ¬ j = uc T p 1 per := by omega
    have x2 : ¬ j = hc p 0 := by omega
    have x3 : ¬ j = uc T p 0 per := by omega
    rw [if_pos (show (j = hc p 0 ∨ j = hc p 1 ∨ j = uc T p 0 per ∨ j = uc T p 1 per) from Or.inr (Or.inl c1))]
    simp only [if_pos c1, if_neg x1, if_neg x2, if_neg x3]
    congr 1
    omega
  · by_cases c2 : j = hc p 0
    · have x1 : ¬ j = uc T p 1 per := by omega
      have x3 : ¬ j = uc T p 0 per := by omega
      rw [if_pos (show (j = hc p 0 ∨ j = hc p 1 ∨ j = uc T p 0 per ∨ j = uc T p 1 per) from Or.inl c2)]
      simp only [if_neg c1, if_neg x1, if_neg x3, if_pos c2]
      congr 1
      omega
    · by_cases c3 : j = uc T p 1 per
      · have x3 : ¬ j = uc T p 0 per := by omega
        rw [if_pos (show (j = hc p 0 ∨ j = hc p 1 ∨ j = uc T p 0 per ∨ j = uc T p 1 per) from Or.inr (Or.inr (Or.inr c3)))]
        simp only [if_neg c1, if_neg c2, if_pos c3, if_neg x3]
        congr 1
        omega
      · by_cases c4 : j = uc T p 0 per
        · rw [if_pos (show (j = hc p 0 ∨ j = hc p 1 ∨ j = uc T p 0 per ∨ j = uc T p 1 per) from Or.inr (Or.inr (Or.inl c4)))]
          simp only [if_neg c1, if_neg c2, if_neg c3, if_pos c4]
          congr 1
          omega
        · have hn : ¬ (j = hc p 0 ∨ j = hc p 1 ∨ j = uc T p 0 per ∨ j = uc T p 1 per) := fun q => by
            rcases q with q | q | q | q
            · exact c2 q
            · exact c1 q
            · exact c4 q
            · exact c3 q
          rw [if_neg hn]
          simp only [if_neg c1, if_neg c2, if_neg c3, if_neg c4]
theorem gO2_comm {N T : Nat → Int} {p per per' : Nat} (h1 : per < 4) (h2 : per' < 4) (ht : T2 T p) (a b c d : Int) : gO2 (gO2 N T p per a b) T p per' c d = gO2 (gO2 N T p per' c d) T p per a b := by
  funext j
  rw [gO2_D h2 ht, gO2_D h1 ht, gO2_D h1 ht, gO2_D h2 ht]
  by_cases c1 : (j = hc p 0 ∨ j = hc p 1 ∨ j = uc T p 0 per ∨ j = uc T p 1 per)
  · by_cases c2 : (j = hc p 0 ∨ j = hc p 1 ∨ j = uc T p 0 per' ∨ j = uc T p 1 per')
    · simp only [if_pos c1, if_pos c2]
      have x := w64_d (N j + gD T p per a b j)
      have y := w64_d (N j + gD T p per' c d j)
      rw [w64_iff]
      omega
    · simp only [if_pos c1, if_neg c2]
  · by_cases c2 : (j = hc p 0 ∨ j = hc p 1 ∨ j = uc T p 0 per' ∨ j = uc T p 1 per')
    · simp only [if_neg c1, if_pos c2]
    · simp only [if_neg c1, if_neg c2]
section DR
variable {M : MZ} {b : Nat} {kk : Bool} {N T : Nat → Int} {L : List (Nat → Int)} {th pe po : Int}
theorem drS_comm {p : Nat} (ht : T2 T p) (side tick r z : Int) {s t : Nat → Int} (h1 : Sok pe po s) (h2 : Sok pe po t) (hpe : pe ≤ 4) (N : Nat → Int) : drS T p side tick r z s (drS T p side tick r z t N) = drS T p side tick r z t (drS T p side tick r z s N) := by
  unfold drS
  have a1 := h1.1
  have a2 := h2.1
  by_cases c1 : dq p side tick s = true
  · by_cases c2 : dq p side tick t = true
    · simp only [if_pos c1, if_pos c2]
      exact gO2_comm (by omega) (by omega) ht _ _ _ _
    · simp only [if_pos c1, if_neg c2]
  · by_cases c2 : dq p side tick t = true
    · simp only [if_neg c1, if_pos c2]
    · simp only [if_neg c1, if_neg c2]
theorem drN_snoc {p : Nat} (ht : T2 T p) (side tick r z : Int) (hL : Lok pe po L) (hpe : pe ≤ 4) {s : Nat → Int} (hs : Sok pe po s) (N : Nat → Int) : drN T p side tick r z N (L ++ [s]) = drS T p side tick r z s (drN T p side tick r z N L) := by
  induction L with
  | nil => rfl
  | cons t l ih =>
    have ht' := hL t (List.mem_cons_self ..)
    have hl : Lok pe po l := fun x hx => hL x (List.mem_cons_of_mem _ hx)
    show drS T p side tick r z t (drN T p side tick r z N (l ++ [s])) = drS T p side tick r z s (drS T p side tick r z t (drN T p side tick r z N l))
    rw [ih hl, drS_comm ht side tick r z ht' hs hpe]
theorem drS_rz {p : Nat} (ht : T2 T p) (side tick r z : Int) {s : Nat → Int} (h1 : Sok pe po s) (hpe : pe ≤ 4) (N : Nat → Int) : (∀ q w, w < 23 → (w < 2 ∨ 4 ≤ w) → drS T p side tick r z s N (22 + 23 * q + w) = N (22 + 23 * q + w)) ∧ (∀ j, j < 2 → drS T p side tick r z s N j = N j) := by
  have a1 := h1.1
  unfold drS
  split
  · exact ⟨fun q w hw hw2 => gO2_rz (by omega) ht.1 ht.2.1 q hw hw2, fun j hj => gO2_lo hj⟩
  · exact ⟨fun _ _ _ _ => rfl, fun _ _ => rfl⟩
theorem drN_rz {p : Nat} (ht : T2 T p) (side tick r z : Int) (hL : Lok pe po L) (hpe : pe ≤ 4) (N : Nat → Int) : (∀ q w, w < 23 → (w < 2 ∨ 4 ≤ w) → drN T p side tick r z N L (22 + 23 * q + w) = N (22 + 23 * q + w)) ∧ (∀ j, j < 2 → drN T p side tick r z N L j = N j) := by
  induction L with
  | nil => exact ⟨fun _ _ _ _ => rfl, fun _ _ => rfl⟩
  | cons t l ih =>
    have ht' := hL t (List.mem_cons_self ..)
    obtain ⟨i1, i2⟩ := ih (fun x hx => hL x (List.mem_cons_of_mem _ hx))
    obtain ⟨s1, s2⟩ := drS_rz ht side tick r z ht' hpe (drN T p side tick r z N l)
    exact ⟨fun q w hw hw2 => (s1 q w hw hw2).trans (i1 q w hw hw2), fun j hj => (s2 j hj).trans (i2 j hj)⟩
theorem drL_mem {p : Nat} {side tick : Int} {s : Nat → Int} (h : s ∈ drL p side tick L) : s ∈ L := (List.mem_filter.mp h).1
theorem WF.dr (W : WF N T L th pe po) {N' : Nat → Int} {L' : List (Nat → Int)} (hN : ∀ q w, w < 23 → (w < 2 ∨ 4 ≤ w) → N' (22 + 23 * q + w) = N (22 + 23 * q + w)) (hL : ∀ s, s ∈ L' → s ∈ L) : WF N' T L' th pe po := by
  refine ⟨?_, fun q hq hqo => ⟨(W.2.1 q hq hqo).1, ?_⟩, fun s hs => W.2.2 s (hL s hs)⟩
  · rcases W.1 with ⟨a, b, c, d⟩ | h
    · refine Or.inl ⟨a, b, c, ?_⟩
      subst d
      cases L' with
      | nil => rfl
      | cons s l => exact absurd (hL s (List.mem_cons_self ..)) (by simp)
    · exact Or.inr h
  · have := (W.2.1 q hq hqo).2
    unfold Rz at *
    have e0 := hN q 0 (by omega) (by omega)
    rw [Nat.add_zero] at e0
    rw [e0, hN q 1 (by omega) (by omega)]
    exact this
theorem dq_pool {p : Nat} {side tick : Int} {s : Nat → Int} (h : dq p side tick s = true) : s 1 = p := (of_decide_eq_true h).1
/-- a taking of all of a dropped stake -/
theorem tk_dr {p i : Nat} {side tick r z : Int} {s : Nat → Int} (hi : L.getD i d0 = s) (hs : Sok pe po s) (hd : dq p side tick s = true) (er : N (22 + 23 * p) = r) (ez : N (22 + 23 * p + 1) = z) : tkN N T L i (s 5) = drS T p side tick r z s N ∧ tkL L i (s 5) = L.eraseIdx i := by
  have hp := dq_pool hd
  unfold tkN tkL drS
  rw [hi, if_neg (show ¬ s 5 < s 5 by omega), if_neg (show ¬ s 5 < s 5 by omega), if_pos hd]
  unfold tkA drA
  rw [hp, Int.toNat_natCast, er, ez]
  exact ⟨rfl, rfl⟩
theorem K_drop_loop (hb : bOK b) (W : WF N T L th pe po) {p : Nat} (hp : p < 5) (hq : (p : Int) < po) {side tick : Int} : ∀ (n f : Nat), n ≤ L.length → n < f → ∀ M' : MZ, Rep kk M' b (drN T p side tick (N (22 + 23 * p)) (N (22 + 23 * p + 1)) N (L.drop n)) T (L.take n ++ drL p side tick (L.drop n)) th pe po → ∃ M'', g_X2_dropAt_8 f b p side tick ((n : Int) - 1) M' = some ((), M'') ∧ Rep kk M'' b (drN T p side tick (N (22 + 23 * p)) (N (22 + 23 * p + 1)) N L) T (drL p side tick L) th pe po ∧ FrB b M' M'' := by
  have hz := W.1.r
  have ht := W.t2 hp hq
  intro n
  induction n with
  | zero =>
    intro f hn hf M' R
    obtain ⟨f, rfl⟩ : ∃ g, f = g + 1 := ⟨f - 1, by omega⟩
    refine ⟨M', ?_, R, FrB.rfl⟩
    have e : g_X2_dropAt_8 (f + 1) b p side tick (((0 : Nat) : Int) - 1) M' = g_X2_dropAt_8B (g_X2_dropAt_8 f) b p side tick (((0 : Nat) : Int) - 1) M' := rfl
    rw [e]
    unfold g_X2_dropAt_8B g_X2_dropAt_118
    rw [if_pos (by omega)]
  | succ n ih =>
    intro f hn hf M' R
    obtain ⟨f, rfl⟩ : ∃ g, f = g + 1 := ⟨f - 1, by omega⟩
    have hn' : n < L.length := by omega
    have h12 := R.2.2.2.2.2.2
    have hln : (L.take (n + 1) ++ drL p side tick (L.drop (n + 1))).length ≤ 12 := h12
    have hlt : n < (L.take (n + 1) ++ drL p side tick (L.drop (n + 1))).length := by
      rw [List.length_append, List.length_take]
      omega
    have hgd : (L.take (n + 1) ++ drL p side tick (L.drop (n + 1))).getD n d0 = L.getD n d0 := by
      rw [List.getD_eq_getElem?_getD, List.getElem?_append_left (by rw [List.length_take]; omega), List.getElem?_take_of_lt (by omega), ← List.getD_eq_getElem?_getD]
    have hs := W.2.2 _ (getD_mem hn')
    have hdrop : L.drop n = L.getD n d0 :: L.drop (n + 1) := by
      rw [List.getD_eq_getElem?_getD, List.getElem?_eq_getElem hn']
      exact List.drop_eq_getElem_cons hn'
    have hkd := R.2.2.2.2.2.1.kd hb (show n < 12 by omega)
    have Lsub : Lok pe po (L.drop (n + 1)) := fun x hx => W.2.2 x (List.mem_of_mem_drop hx)
    obtain ⟨z1, z2⟩ := drN_rz ht side tick (N (22 + 23 * p)) (N (22 + 23 * p + 1)) Lsub (by omega) N
    generalize es : L.getD n d0 = s at *
    have e : g_X2_dropAt_8 (f + 1) b p side tick (((n + 1 : Nat) : Int) - 1) M' = g_X2_dropAt_8B (g_X2_dropAt_8 f) b p side tick (((n + 1 : Nat) : Int) - 1) M' := rfl
    have k1 : zI M' (zR M' (b + 3) n) 1 = s 1 := by rw [K_sI R hlt (by omega), hgd]
    have k2 : zI M' (zR M' (b + 3) n) 2 = s 2 := by rw [K_sI R hlt (by omega), hgd]
    have k3 : zI M' (zR M' (b + 3) n) 3 = s 3 := by rw [K_sI R hlt (by omega), hgd]
    have k4 : zI M' (zR M' (b + 3) n) 4 = s 4 := by rw [K_sI R hlt (by omega), hgd]
    have k5 : zI M' (zR M' (b + 3) n) 5 = s 5 := by rw [K_sI R hlt (by omega), hgd]
    have hstep : g_X2_dropAt_8B (g_X2_dropAt_8 f) b p side tick (((n + 1 : Nat) : Int) - 1) M' = (if dq p side tick s = true then ((g_X2_withdraw b n (s 5) M').bind fun q109 => g_X2_dropAt_8 f b p side tick ((n : Int) - 1) q109.2) else g_X2_dropAt_8 f b p side tick ((n : Int) - 1) M') := by
      unfold g_X2_dropAt_8B g_X2_dropAt_32 g_X2_dropAt_58 g_X2_dropAt_84 g_X2_dropAt_85 g_X2_dropAt_112 dq
      rw [show (((n + 1 : Nat) : Int) - 1) = (n : Int) by omega, if_neg (by omega), if_pos (kdb hb), if_neg (by omega), if_pos (by omega), Int.toNat_natCast, if_pos hkd, k1, k2, k3, k4, k5, if_pos (kdb hb), w32_id (x := (n : Int) + -1) (by omega) (by omega), show (n : Int) + -1 = (n : Int) - 1 by omega]
      simp only [if_pos hkd, decide_eq_true_eq, Int.reduceEq, reduceIte]
      by_cases c0 : side = 0
      · simp only [if_pos c0]
        repeat' split
        all_goals first | rfl | (exfalso; omega)
      · simp only [if_neg c0]
        repeat' split
        all_goals first | rfl | (exfalso; omega)
    rw [e, hstep]
    have hdn : drN T p side tick (N (22 + 23 * p)) (N (22 + 23 * p + 1)) N (L.drop n) = drS T p side tick (N (22 + 23 * p)) (N (22 + 23 * p + 1)) s (drN T p side tick (N (22 + 23 * p)) (N (22 + 23 * p + 1)) N (L.drop (n + 1))) := by rw [hdrop]; rfl
    by_cases c : dq p side tick s = true
    · rw [if_pos c]
      have W' : WF (drN T p side tick (N (22 + 23 * p)) (N (22 + 23 * p + 1)) N (L.drop (n + 1))) T (L.take (n + 1) ++ drL p side tick (L.drop (n + 1))) th pe po := W.dr z1 (fun x hx => by
        rcases List.mem_append.mp hx with h | h
        · exact List.mem_of_mem_take h
        · exact List.mem_of_mem_drop (drL_mem h))
      obtain ⟨M1, a1, R1, F1⟩ := K_withdraw hb R W' hlt (l := s 5) (by have := hs.2.2.2.2.1; omega) (by rw [hgd]; exact Int.le_refl _)
      have e0 : drN T p side tick (N (22 + 23 * p)) (N (22 + 23 * p + 1)) N (L.drop (n + 1)) (22 + 23 * p) = N (22 + 23 * p) := z1 p 0 (by omega) (by omega)
      obtain ⟨t1, t2⟩ := tk_dr (N := drN T p side tick (N (22 + 23 * p)) (N (22 + 23 * p + 1)) N (L.drop (n + 1))) (T := T) hgd hs c e0 (z1 p 1 (by omega) (by omega))
      rw [t1, t2, ← hdn] at R1
      have hL' : (L.take (n + 1) ++ drL p side tick (L.drop (n + 1))).eraseIdx n = L.take n ++ drL p side tick (L.drop n) := by
        have q1 : drL p side tick (L.drop n) = drL p side tick (L.drop (n + 1)) := by
          rw [hdrop]
          unfold drL nq
          rw [List.filter_cons, c]
          rfl
        rw [q1, take_succ_getD hn', es, List.append_assoc, List.eraseIdx_append_of_length_le (by rw [List.length_take]; omega), List.length_take, show n - min n L.length = 0 by omega]
        rfl
      rw [hL'] at R1
      obtain ⟨M2, b1, b2, b3⟩ := ih f (by omega) (by omega) M1 R1
      rw [a1]
      simp only [bindS]
      exact ⟨M2, b1, b2, F1.trans b3⟩
    · rw [if_neg c]
      have hL' : L.take (n + 1) ++ drL p side tick (L.drop (n + 1)) = L.take n ++ drL p side tick (L.drop n) := by
        have q1 : drL p side tick (L.drop n) = s :: drL p side tick (L.drop (n + 1)) := by
          rw [hdrop]
          unfold drL nq
          rw [List.filter_cons, if_pos (by simpa using c)]
        rw [q1, take_succ_getD hn', es, List.append_assoc]
        rfl
      have hN' : drN T p side tick (N (22 + 23 * p)) (N (22 + 23 * p + 1)) N (L.drop n) = drN T p side tick (N (22 + 23 * p)) (N (22 + 23 * p + 1)) N (L.drop (n + 1)) := by
        rw [hdn]
        unfold drS
        rw [if_neg c]
      rw [hL', ← hN'] at R
      exact ih f (by omega) (by omega) M' R
theorem K_dropAt (hb : bOK b) (R : Rep kk M b N T L th pe po) (W : WF N T L th pe po) {p : Nat} (hp : p < 5) (hq : (p : Int) < po) (side tick : Int) : ∃ M', g_X2_dropAt b p side tick M = some ((), M') ∧ Rep kk M' b (drN T p side tick (N (22 + 23 * p)) (N (22 + 23 * p + 1)) N L) T (drL p side tick L) th pe po ∧ FrB b M M' := by
  have h12 := R.2.2.2.2.2.2
  have e1 : drN T p side tick (N (22 + 23 * p)) (N (22 + 23 * p + 1)) N (L.drop L.length) = N := by rw [List.drop_length]; rfl
  have e2 : L.take L.length ++ drL p side tick (L.drop L.length) = L := by rw [List.drop_length, List.take_length]; show L ++ [] = L; simp
  have R' : Rep kk M b (drN T p side tick (N (22 + 23 * p)) (N (22 + 23 * p + 1)) N (L.drop L.length)) T (L.take L.length ++ drL p side tick (L.drop L.length)) th pe po := by rw [e1, e2]; exact R
  obtain ⟨M', a1, a2, a3⟩ := K_drop_loop hb W hp hq L.length 100000 (Nat.le_refl _) (by omega) M R'
  refine ⟨M', ?_, a2, a3⟩
  unfold g_X2_dropAt
  rw [if_pos (kdb hb), R.1.2.2.2.1, w32_id (by omega) (by omega)]
  exact a1
end DR
