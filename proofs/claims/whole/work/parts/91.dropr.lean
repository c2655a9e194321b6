/-! stakes that are dropped by themselves, the reference's half -/
section DS
variable {M : MZ} {N T : Nat → Int} {L : List (Nat → Int)} {th pe po : Int}
theorem R_drop_loop (W : WF N T L th pe po) (hl12 : L.length ≤ 12) {p : Nat} (hp : p < 5) (hq : (p : Int) < po) {side tick : Int} : ∀ (n i f : Nat), i + n = L.length → n < f → ∀ M' : MZ, KON M' → RepR M' (drN T p side tick (N (22 + 23 * p)) (N (22 + 23 * p + 1)) N (L.take i)) T (drL p side tick (L.take i) ++ L.drop i) th pe po → ∃ M'', g_X12_drops_3 f p side tick (drL p side tick (L.take i)).length M' = some ((), M'') ∧ RepR M'' (drN T p side tick (N (22 + 23 * p)) (N (22 + 23 * p + 1)) N L) T (drL p side tick L) th pe po ∧ Fr23 M' M'' := by
  have hz := W.1.r
  have ht := W.t2 hp hq
  intro n
  induction n with
  | zero =>
    intro i f hi hf M' K R
    obtain ⟨f, rfl⟩ : ∃ g, f = g + 1 := ⟨f - 1, by omega⟩
    have e1 : L.take i = L := by rw [show i = L.length by omega, List.take_length]
    have e2 : L.drop i = [] := by rw [show i = L.length by omega, List.drop_length]
    rw [e1, e2, List.append_nil] at R
    refine ⟨M', ?_, R, Fr23.rfl⟩
    have e : g_X12_drops_3 (f + 1) p side tick (drL p side tick (L.take i)).length M' = g_X12_drops_3B (g_X12_drops_3 f) p side tick (drL p side tick (L.take i)).length M' := rfl
    rw [e, e1]
    unfold g_X12_drops_3B
    rw [R_stakes R]
    simp only [bindS]
    rw [if_pos (Int.le_refl _)]
  | succ n ih =>
    intro i f hi hf M' K R
    obtain ⟨f, rfl⟩ : ∃ g, f = g + 1 := ⟨f - 1, by omega⟩
    have hi' : i < L.length := by omega
    have h12 := R.2.2.2.2.2
    have hs := W.2.2 _ (getD_mem hi')
    have hdrop : L.drop i = L.getD i d0 :: L.drop (i + 1) := by
      rw [List.getD_eq_getElem?_getD, List.getElem?_eq_getElem hi']
      exact List.drop_eq_getElem_cons hi'
    have Lsub : Lok pe po (L.take i) := fun x hx => W.2.2 x (List.mem_of_mem_take hx)
    obtain ⟨z1, z2⟩ := drN_rz ht side tick (N (22 + 23 * p)) (N (22 + 23 * p + 1)) Lsub (by omega) N
    have htk := take_succ_getD hi'
    generalize es : L.getD i d0 = s at *
    have hlt : (drL p side tick (L.take i)).length < (drL p side tick (L.take i) ++ L.drop i).length := by
      rw [List.length_append, hdrop]
      simp
    have hgd : (drL p side tick (L.take i) ++ L.drop i).getD (drL p side tick (L.take i)).length d0 = s := by
      rw [List.getD_eq_getElem?_getD, List.getElem?_append_right (Nat.le_refl _), Nat.sub_self, hdrop]
      rfl
    have e : g_X12_drops_3 (f + 1) p side tick (drL p side tick (L.take i)).length M' = g_X12_drops_3B (g_X12_drops_3 f) p side tick (drL p side tick (L.take i)).length M' := rfl
    have ew : ∀ x : Int, 0 ≤ x → x < 10 → g_X12_ofStake (drL p side tick (L.take i)).length x M' = some (s x.toNat, M') := fun x h1 h2 => by rw [R_stk R hlt h1 h2, hgd]
    have hstep : g_X12_drops_3B (g_X12_drops_3 f) p side tick (drL p side tick (L.take i)).length M' = (if dq p side tick s = true then ((g_X12_takesOut (drL p side tick (L.take i)).length (s 5) M').bind fun q106 => g_X12_drops_3 f p side tick (drL p side tick (L.take i)).length q106.2) else g_X12_drops_3 f p side tick (((drL p side tick (L.take i)).length + 1 : Nat) : Int) M') := by
      unfold g_X12_drops_3B g_X12_drops_84 g_X12_drops_88 g_X12_drops_89 g_X12_drops_115 dq
      rw [R_stakes R]
      simp only [bindS, ew 1 (by omega) (by omega), ew 2 (by omega) (by omega), ew 3 (by omega) (by omega), ew 4 (by omega) (by omega), ew 5 (by omega) (by omega), show (1 : Int).toNat = 1 from rfl, show (2 : Int).toNat = 2 from rfl, show (3 : Int).toNat = 3 from rfl, show (4 : Int).toNat = 4 from rfl, show (5 : Int).toNat = 5 from rfl, decide_eq_true_eq, Int.reduceEq, reduceIte]
      rw [if_neg (by omega), w32_id (x := ((drL p side tick (L.take i)).length : Int) + 1) (by omega) (by omega), show ((drL p side tick (L.take i)).length : Int) + 1 = (((drL p side tick (L.take i)).length + 1 : Nat) : Int) by omega]
      by_cases c0 : side = 0
      · simp only [if_pos c0]
        repeat' split
        all_goals first | (exfalso; omega) | rfl
      · simp only [if_neg c0]
        repeat' split
        all_goals first | (exfalso; omega) | rfl
    rw [e, hstep]
    have hsn : drN T p side tick (N (22 + 23 * p)) (N (22 + 23 * p + 1)) N (L.take (i + 1)) = drS T p side tick (N (22 + 23 * p)) (N (22 + 23 * p + 1)) s (drN T p side tick (N (22 + 23 * p)) (N (22 + 23 * p + 1)) N (L.take i)) := by
      rw [htk]
      exact drN_snoc ht side tick _ _ Lsub (by omega) hs N
    by_cases c : dq p side tick s = true
    · rw [if_pos c]
      have W' : WF (drN T p side tick (N (22 + 23 * p)) (N (22 + 23 * p + 1)) N (L.take i)) T (drL p side tick (L.take i) ++ L.drop i) th pe po := W.dr z1 (fun x hx => by
        rcases List.mem_append.mp hx with h | h
        · exact List.mem_of_mem_take (drL_mem h)
        · exact List.mem_of_mem_drop h)
      obtain ⟨M1, a1, R1, F1⟩ := R_takesOut R K W' hlt (l := s 5) (by have := hs.2.2.2.2.1; omega) (by rw [hgd]; exact Int.le_refl _)
      have e0 : drN T p side tick (N (22 + 23 * p)) (N (22 + 23 * p + 1)) N (L.take i) (22 + 23 * p) = N (22 + 23 * p) := z1 p 0 (by omega) (by omega)
      obtain ⟨t1, t2⟩ := tk_dr (N := drN T p side tick (N (22 + 23 * p)) (N (22 + 23 * p + 1)) N (L.take i)) (T := T) hgd hs c e0 (z1 p 1 (by omega) (by omega))
      rw [t1, t2, ← hsn] at R1
      have q1 : drL p side tick (L.take (i + 1)) = drL p side tick (L.take i) := by
        rw [htk]
        unfold drL nq
        rw [List.filter_append, List.filter_cons, c]
        simp
      have hL' : (drL p side tick (L.take i) ++ L.drop i).eraseIdx (drL p side tick (L.take i)).length = drL p side tick (L.take (i + 1)) ++ L.drop (i + 1) := by
        rw [q1, List.eraseIdx_append_of_length_le (Nat.le_refl _), Nat.sub_self, hdrop]
        rfl
      rw [hL'] at R1
      obtain ⟨M2, b1, b2, b3⟩ := ih (i + 1) f (by omega) (by omega) M1 (K.f23 F1) R1
      rw [q1] at b1
      rw [a1]
      simp only [bindS]
      exact ⟨M2, b1, b2, F1.trans b3⟩
    · rw [if_neg c]
      have q1 : drL p side tick (L.take (i + 1)) = drL p side tick (L.take i) ++ [s] := by
        rw [htk]
        unfold drL nq
        rw [List.filter_append, List.filter_cons, if_pos (by simpa using c)]
        rfl
      have hL' : drL p side tick (L.take i) ++ L.drop i = drL p side tick (L.take (i + 1)) ++ L.drop (i + 1) := by
        rw [q1, hdrop, List.append_assoc]
        rfl
      have hN' : drN T p side tick (N (22 + 23 * p)) (N (22 + 23 * p + 1)) N (L.take (i + 1)) = drN T p side tick (N (22 + 23 * p)) (N (22 + 23 * p + 1)) N (L.take i) := by
        rw [hsn]
        unfold drS
        rw [if_neg c]
      rw [hL', ← hN'] at R
      have := ih (i + 1) f (by omega) (by omega) M' K R
      rw [q1, List.length_append] at this
      exact this
theorem R_drops (R : RepR M N T L th pe po) (K : KON M) (W : WF N T L th pe po) {p : Nat} (hp : p < 5) (hq : (p : Int) < po) (side tick : Int) : ∃ M', g_X12_drops p side tick M = some ((), M') ∧ RepR M' (drN T p side tick (N (22 + 23 * p)) (N (22 + 23 * p + 1)) N L) T (drL p side tick L) th pe po ∧ Fr23 M M' := by
  have h12 := R.2.2.2.2.2
  exact R_drop_loop W h12 hp hq L.length 0 100000 (by omega) (by omega) M K R
end DS
