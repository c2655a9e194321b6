/-! stakes that are dropped keep the money -/
section DM
variable {D : Nat → Nat → Int} {N T : Nat → Int} {L : List (Nat → Int)} {th pe po : Int}
theorem lie_b {r z l lo hi : Int} (hR : Rzz r z) (hl : 0 ≤ l ∧ l ≤ 12000000) (ht : 0 ≤ lo ∧ lo < hi ∧ hi ≤ 40) (k u : Int) : lie r z l lo hi k u ≤ 264984001 := by
  obtain ⟨hz, h1, h2⟩ := hR
  have a1 := rtz_r (t := lo) (by omega) (by omega)
  have a2 := rtz_r (t := hi) (by omega) (by omega)
  have a3 := rtz_lt (a := lo) (b := hi) (by omega) (by omega) (by omega)
  have a4 := rtz_r (t := z) (by omega) (by omega)
  unfold lie
  split
  · split
    · omega
    · have hL : Lab l (if z < lo then rtz lo else r) (rtz hi) := by
        refine ⟨hl, ?_⟩
        have b1 := rtz_le (a := z + 1) (b := if z < hi then hi else z + 1) (by omega) (by split <;> omega) (by split <;> omega)
        rw [if_pos (by omega)] at b1
        split <;> omega
      exact (fst_b hL u).2
  · split
    · omega
    · have hL : Lab l (rtz lo) (if hi ≤ z then rtz hi else r) := by
        refine ⟨hl, ?_⟩
        have b1 := rtz_le (a := lo) (b := if lo ≤ z then z else lo) (by omega) (by split <;> omega) (by split <;> omega)
        rw [if_pos (by omega)] at b1
        have b2 := rtz_r (t := z + 1) (by omega) (by omega)
        split <;> omega
      exact (snd_b hL u).2
/-- what a drop gives no purse loses -/
theorem drS_up (W : WF N T L th pe po) (h : MnyD D N T L po) (hD : ∀ p k, D p k ≤ 39999996) {p : Nat} (hp : p < 5) (hq : (p : Int) < po) {side tick : Int} {s : Nat → Int} (hs : s ∈ L) (hsp : s 1 = p) {j : Nat} (hj : j < 20) : N (2 + j) ≤ drS T p side tick (N (22 + 23 * p)) (N (22 + 23 * p + 1)) s N (2 + j) := by
  have ht := W.t2 hp hq
  have hok := W.2.2 s hs
  have hpe := W.1.r
  have hrz : Rzz (N (22 + 23 * p)) (N (22 + 23 * p + 1)) := (W.2.1 p hp hq).2
  have o0 := owd_ok W.2.2 h hD hp hq (k := 0) (by omega) ht.1 hrz hs hsp
  have o1 := owd_ok W.2.2 h hD hp hq (k := 1) (by omega) ht.2.1 hrz hs hsp
  have hl : 0 ≤ s 5 ∧ s 5 ≤ 12000000 := by have := hok.2.2.2.2.1; omega
  have n0 := lie_nn hrz hl hok.2.2.1 0 0
  have n1 := lie_nn hrz hl hok.2.2.1 1 0
  have b0 := lie_b hrz hl hok.2.2.1 0 0
  have b1 := lie_b hrz hl hok.2.2.1 1 0
  have hu := h.hU j hj
  unfold drS
  split
  · have hper : (s 0).toNat < 4 := by have := hok.1; omega
    rw [gO2_D hper ht]
    have e0 : drA (N (22 + 23 * p)) (N (22 + 23 * p + 1)) s 0 = lie (N (22 + 23 * p)) (N (22 + 23 * p + 1)) (s 5) (s 2) (s 3) 0 0 + owd s 0 := rfl
    have e1 : drA (N (22 + 23 * p)) (N (22 + 23 * p + 1)) s 1 = lie (N (22 + 23 * p)) (N (22 + 23 * p + 1)) (s 5) (s 2) (s 3) 1 0 + owd s 1 := rfl
    generalize drA (N (22 + 23 * p)) (N (22 + 23 * p + 1)) s 0 = x at *
    generalize drA (N (22 + 23 * p)) (N (22 + 23 * p + 1)) s 1 = y at *
    have c0 : 2 + j ≠ hc p 0 := by unfold hc; omega
    have c1 : 2 + j ≠ hc p 1 := by unfold hc; omega
    have hg : 0 ≤ gD T p (s 0).toNat x y (2 + j) ∧ gD T p (s 0).toNat x y (2 + j) ≤ 1000000000 := by
      unfold gD
      rw [if_neg c0, if_neg c1]
      split <;> split <;> omega
    split
    · rw [w64_id (by omega) (by omega)]
      omega
    · exact Int.le_refl _
  · exact Int.le_refl _
theorem drop_money_loop (W : WF N T L th pe po) (hD : ∀ p k, D p k ≤ 39999996) {p : Nat} (hp : p < 5) (hq : (p : Int) < po) (hd : D p 0 = 0 ∧ D p 1 = 0) {side tick : Int} : ∀ (n i : Nat), i + n = L.length → MnyD D (drN T p side tick (N (22 + 23 * p)) (N (22 + 23 * p + 1)) N (L.take i)) T (drL p side tick (L.take i) ++ L.drop i) po → MnyD D (drN T p side tick (N (22 + 23 * p)) (N (22 + 23 * p + 1)) N L) T (drL p side tick L) po ∧ ∀ j, j < 20 → drN T p side tick (N (22 + 23 * p)) (N (22 + 23 * p + 1)) N (L.take i) (2 + j) ≤ drN T p side tick (N (22 + 23 * p)) (N (22 + 23 * p + 1)) N L (2 + j) := by
  have hz := W.1.r
  have ht := W.t2 hp hq
  intro n
  induction n with
  | zero =>
    intro i hi h
    have e1 : L.take i = L := by rw [show i = L.length by omega, List.take_length]
    have e2 : L.drop i = [] := by rw [show i = L.length by omega, List.drop_length]
    rw [e1, e2, List.append_nil] at h
    rw [e1]
    exact ⟨h, fun j _ => Int.le_refl _⟩
  | succ n ih =>
    intro i hi h
    have hi' : i < L.length := by omega
    have hs := W.2.2 _ (getD_mem hi')
    have hdrop : L.drop i = L.getD i d0 :: L.drop (i + 1) := by
      rw [List.getD_eq_getElem?_getD, List.getElem?_eq_getElem hi']
      exact List.drop_eq_getElem_cons hi'
    have Lsub : Lok pe po (L.take i) := fun x hx => W.2.2 x (List.mem_of_mem_take hx)
    obtain ⟨z1, z2⟩ := drN_rz ht side tick (N (22 + 23 * p)) (N (22 + 23 * p + 1)) Lsub (by omega) N
    have htk := take_succ_getD hi'
    generalize es : L.getD i d0 = s at *
    have hlt : (drL p side tick (L.take i)).length < (drL p side tick (L.take i) ++ L.drop i).length := by
      rw [List.length_append, hdrop]
      simp
    have hgd : (drL p side tick (L.take i) ++ L.drop i).getD (drL p side tick (L.take i)).length d0 = s := by
      rw [List.getD_eq_getElem?_getD, List.getElem?_append_right (Nat.le_refl _), Nat.sub_self, hdrop]
      rfl
    have hsn : drN T p side tick (N (22 + 23 * p)) (N (22 + 23 * p + 1)) N (L.take (i + 1)) = drS T p side tick (N (22 + 23 * p)) (N (22 + 23 * p + 1)) s (drN T p side tick (N (22 + 23 * p)) (N (22 + 23 * p + 1)) N (L.take i)) := by
      rw [htk]
      exact drN_snoc ht side tick _ _ Lsub (by omega) hs N
    by_cases c : dq p side tick s = true
    · have W' : WF (drN T p side tick (N (22 + 23 * p)) (N (22 + 23 * p + 1)) N (L.take i)) T (drL p side tick (L.take i) ++ L.drop i) th pe po := W.dr z1 (fun x hx => by
        rcases List.mem_append.mp hx with h | h
        · exact List.mem_of_mem_take (drL_mem h)
        · exact List.mem_of_mem_drop h)
      have e0 : drN T p side tick (N (22 + 23 * p)) (N (22 + 23 * p + 1)) N (L.take i) (22 + 23 * p) = N (22 + 23 * p) := z1 p 0 (by omega) (by omega)
      have e1 := z1 p 1 (by omega) (by omega)
      have m := (take_money W' h hD hlt (l := s 5) (by have := hs.2.2.2.2.1; omega) (by rw [hgd]; exact Int.le_refl _) (by rw [hgd, dq_pool c, Int.toNat_natCast]; exact hd)).1
      have up := fun j hj => drS_up W' h hD hp hq (side := side) (tick := tick) (s := s) (List.mem_append.mpr (Or.inr (by rw [hdrop]; exact List.mem_cons_self ..))) (dq_pool c) (j := j) hj
      obtain ⟨t1, t2⟩ := tk_dr (N := drN T p side tick (N (22 + 23 * p)) (N (22 + 23 * p + 1)) N (L.take i)) (T := T) hgd hs c e0 e1
      rw [e0, e1] at up
      rw [t1, t2, ← hsn] at m
      rw [← hsn] at up
      have q1 : drL p side tick (L.take (i + 1)) = drL p side tick (L.take i) := by
        rw [htk]
        unfold drL nq
        rw [List.filter_append, List.filter_cons, c]
        simp
      have hL' : (drL p side tick (L.take i) ++ L.drop i).eraseIdx (drL p side tick (L.take i)).length = drL p side tick (L.take (i + 1)) ++ L.drop (i + 1) := by
        rw [q1, List.eraseIdx_append_of_length_le (Nat.le_refl _), Nat.sub_self, hdrop]
        rfl
      rw [hL'] at m
      obtain ⟨r1, r2⟩ := ih (i + 1) (by omega) m
      exact ⟨r1, fun j hj => Int.le_trans (up j hj) (r2 j hj)⟩
    · have q1 : drL p side tick (L.take (i + 1)) = drL p side tick (L.take i) ++ [s] := by
        rw [htk]
        unfold drL nq
        rw [List.filter_append, List.filter_cons, if_pos (by simpa using c)]
        rfl
      have hL' : drL p side tick (L.take i) ++ L.drop i = drL p side tick (L.take (i + 1)) ++ L.drop (i + 1) := by
        rw [q1, hdrop, List.append_assoc]
        rfl
      have hN' : drN T p side tick (N (22 + 23 * p)) (N (22 + 23 * p + 1)) N (L.take (i + 1)) = drN T p side tick (N (22 + 23 * p)) (N (22 + 23 * p + 1)) N (L.take i) := by
        rw [hsn]
        unfold drS
        rw [if_neg c]
      rw [hL', ← hN'] at h
      rw [← hN']
      exact ih (i + 1) (by omega) h
theorem drop_money (W : WF N T L th pe po) (h : MnyD D N T L po) (hD : ∀ p k, D p k ≤ 39999996) {p : Nat} (hp : p < 5) (hq : (p : Int) < po) (hd : D p 0 = 0 ∧ D p 1 = 0) (side tick : Int) : MnyD D (drN T p side tick (N (22 + 23 * p)) (N (22 + 23 * p + 1)) N L) T (drL p side tick L) po ∧ ∀ j, j < 20 → N (2 + j) ≤ drN T p side tick (N (22 + 23 * p)) (N (22 + 23 * p + 1)) N L (2 + j) := drop_money_loop W hD hp hq hd L.length 0 (by omega) h
end DM
