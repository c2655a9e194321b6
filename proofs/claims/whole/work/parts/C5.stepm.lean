/-! money over one step of a swap -/
section ST
variable {D : Nat → Nat → Int} {N T : Nat → Int} {L : List (Nat → Int)} {th pe po : Int}
theorem trN_drS {p k per : Nat} (ht : T2 T p) (hk : k < 2) {side tick r z c g : Int} {s : Nat → Int} (hs : Sok pe po s) (hpe : pe ≤ 4) (N : Nat → Int) : trN (drS T p side tick r z s N) T p k per c g = drS T p side tick r z s (trN N T p k per c g) := by
  have h4 : (s 0).toNat < 4 := by have := hs.1; omega
  unfold drS
  split
  · funext j
    rw [trN_at ht hk, gO2_D h4 ht, gO2_D h4 ht, trN_at ht hk]
    generalize gD T p (s 0).toNat (drA r z s 0) (drA r z s 1) j = d
    have ww : ∀ x y a : Int, w64 (w64 (x + a) + y) = w64 (w64 (x + y) + a) := fun x y a => by
      have h1 := w64_d (x + a)
      have h2 := w64_d (x + y)
      rw [w64_iff]
      omega
    by_cases c1 : j = uc T p (1 - k) per
    · simp only [if_pos c1]
      split
      · exact ww _ _ _
      · rfl
    · simp only [if_neg c1]
      by_cases c2 : j = uc T p k per
      · simp only [if_pos c2]
        split
        · exact ww _ _ _
        · rfl
      · simp only [if_neg c2]
  · rfl
theorem trN_drN {p k per : Nat} (ht : T2 T p) (hk : k < 2) {side tick r z c g : Int} (hL : Lok pe po L) (hpe : pe ≤ 4) (N : Nat → Int) : trN (drN T p side tick r z N L) T p k per c g = drN T p side tick r z (trN N T p k per c g) L := by
  induction L with
  | nil => rfl
  | cons s l ih =>
    have e1 : ∀ N, drN T p side tick r z N (s :: l) = drS T p side tick r z s (drN T p side tick r z N l) := fun _ => rfl
    rw [e1, e1, trN_drS ht hk (hL s (List.mem_cons_self ..)) hpe, ih (fun x hx => hL x (List.mem_cons_of_mem _ hx))]
theorem x2_cells {p : Nat} {side e o left : Int} (hs : side = 0 ∨ side = 1) : x2 N T L p side e o left (hc p (xk side)) = w64 (N (hc p (xk side)) + w64 (xCo N T L p side e o left + xFe N T L p side e o left)) ∧ x2 N T L p side e o left (hc p (1 - xk side)) = w64 (N (hc p (1 - xk side)) + w64 (-xGo N T L p side e o left)) ∧ x2 N T L p side e o left (hoC p (xk side)) = w64 (N (hoC p (xk side)) + cutF (xFe N T L p side e o left) (T (5 * p + 3))) := by
  obtain ⟨hk, hk2⟩ := xk_r hs
  have ee : ∀ j, j ≠ 22 + 23 * p + 1 → j ≠ 1 → x2 N T L p side e o left j = x1 N T L p side e o left j := fun j a1 a2 => by
    unfold x2
    rw [ud_ne a1]
    split
    · rw [ud_ne a2]
    · rfl
  have y0 : x0 N T L p side e o left = ud N (hoC p (xk side)) (w64 (N (hoC p (xk side)) + cutF (xFe N T L p side e o left) (T (5 * p + 3)))) := rfl
  refine ⟨?_, ?_, ?_⟩
  · rw [ee _ (by unfold hc; omega) (by unfold hc; omega)]
    unfold x1
    rw [ud_ne (by unfold hc; omega), ud_ne (by unfold hc; omega), ud_at, y0, ud_ne (by unfold hc hoC; omega)]
  · rw [ee _ (by unfold hc; omega) (by unfold hc; omega)]
    unfold x1
    rw [ud_ne (by unfold hc; omega), ud_at, y0, ud_ne (by unfold hc hoC; omega)]
  · rw [ee _ (by unfold hoC; omega) (by unfold hoC; omega)]
    unfold x1
    rw [ud_ne (by unfold hoC; omega), ud_ne (by unfold hc hoC; omega), ud_ne (by unfold hc hoC; omega), y0, ud_at]
theorem MnyD.bo (h : MnyD D N T L po) (hL : Lok pe po L) (hD : ∀ p k, D p k ≤ 39999996) {p k : Nat} (hp : p < 5) (hq : (p : Int) < po) (hk : k < 2) (ht : 0 ≤ T (5 * p + k) ∧ T (5 * p + k) < 5) (hR : Rzz (N (22 + 23 * p)) (N (22 + 23 * p + 1))) : N (22 + 23 * p + (4 + k)) ≤ 79999992 := by
  have hb := h.bp hp hq hk ht
  have hh := h.2.1 p k hp hq hk
  have hn := sumR_nn (claim_nn hL h.2.2.2 hR p hk)
  have hS := hh.2.2
  unfold SolvD at hS
  have c1 := rcast_le hb
  have c2 := rcast_le (hD p k)
  apply Rat.intCast_le_intCast.mp
  have e1 : ((39999996 : Int) : Rat) = 39999996 := rfl
  have e2 : ((79999992 : Int) : Rat) = 79999992 := rfl
  rw [e1] at c1 c2
  rw [e2]
  grind
theorem step_money (W : WF N T L th pe po) (h12 : L.length ≤ 12) {p per : Nat} {side e o left : Int} (hg : Pgo N T L p po side e o left) (hper : per < 4) {c g : Int} (hc0 : 0 ≤ c ∧ c ≤ 100000000000000) (hg0 : 0 ≤ g ∧ g ≤ 100000000000000) (h : MnyD D (trN N T p (xk side) per c g) T L po) (hD : ∀ p k, D p k ≤ 39999996) (hd : D p 0 = 0 ∧ D p 1 = 0) (hpay : xCo N T L p side e o left + xFe N T L p side e o left ≤ trN N T p (xk side) per c g (uc T p (xk side) per)) :
    MnyD D (trN (xN N T L p side e o left) T p (xk side) per (w64 (c + w64 (xCo N T L p side e o left + xFe N T L p side e o left))) (w64 (g + xGo N T L p side e o left))) T (xL N T L p side e o left) po ∧ trN N T p (xk side) per c g (uc T p (xk side) per) - (xCo N T L p side e o left + xFe N T L p side e o left) ≤ trN (xN N T L p side e o left) T p (xk side) per (w64 (c + w64 (xCo N T L p side e o left + xFe N T L p side e o left))) (w64 (g + xGo N T L p side e o left)) (uc T p (xk side) per) := by
  have hg' := hg
  obtain ⟨hp, hq, hs, ho, he, hge, hle⟩ := hg'
  obtain ⟨hk, hk2⟩ := xk_r hs
  have hpe := W.1.r
  have ht := W.t2 hp hq
  have htold := (W.2.1 p hp hq).1
  obtain ⟨hP, hA, hA0, hA1, hrz⟩ := hg.pst W h12
  have hco : 0 ≤ xCo N T L p side e o left ∧ xCo N T L p side e o left ≤ 10000000000 := sCo_nn hP
  have hfe : 0 ≤ xFe N T L p side e o left ∧ xFe N T L p side e o left ≤ 10000000000 := sFe_nn hP
  have hgo : 0 ≤ xGo N T L p side e o left ∧ xGo N T L p side e o left ≤ 10000000000 := sGo_nn hP
  obtain ⟨x2a, x2b, x2c⟩ := x2_cells (N := N) (T := T) (L := L) (p := p) (e := e) (o := o) (left := left) hs
  obtain ⟨x2r, x2z⟩ := x2_rz (N := N) (T := T) (L := L) (p := p) (side := side) (e := e) (o := o) (left := left)
  have W2 := x2_WF W h12 hg
  obtain ⟨nrz, _, _⟩ := xZ_rz W h12 hg
  -- moves
  have hmv : ∀ k, k < 2 → sumR (claimX p k (xRt N T L p side e o left) (xZ N T L p side e o left)) L = sumR (claimX p k (xr N p) (xz N p)) L + ((dep L p (xz N p) : Int) : Rat) * mvX k (xr N p) (xRt N T L p side e o left) := fun k hk => sum_mv hs (fun s hsm hsp => x_Mv W h12 hg hsm hsp) hk
  have hcm : ((dep L p (xz N p) : Int) : Rat) * mvX (xk side) (xr N p) (xRt N T L p side e o left) ≤ ((xCo N T L p side e o left : Int) : Rat) := by
    rcases ho with rfl | rfl
    · exact co_mv0 hP
    · exact co_mv1 hP
  have hgm : ((xGo N T L p side e o left : Int) : Rat) ≤ -(((dep L p (xz N p) : Int) : Rat) * mvX (1 - xk side) (xr N p) (xRt N T L p side e o left)) := by
    rcases ho with rfl | rfl
    · exact go_mv0 hP
    · exact go_mv1 hP
  have r1 := uc_r ht hk2 hper
  have r2 := uc_r ht (show 1 - xk side < 2 by omega) hper
  have hne := uc_ne (per := per) ht hk2
  have hPN : ∀ j, j ≠ uc T p (xk side) per → j ≠ uc T p (1 - xk side) per → trN N T p (xk side) per c g j = N j := fun j a1 a2 => by rw [trN_at ht hk2, if_neg a2, if_neg a1]
  have hPu1 : trN N T p (xk side) per c g (uc T p (xk side) per) = w64 (N (uc T p (xk side) per) + w64 (-c)) := by rw [trN_at ht hk2, if_neg hne, if_pos rfl]
  have hPu2 : trN N T p (xk side) per c g (uc T p (1 - xk side) per) = w64 (N (uc T p (1 - xk side) per) + g) := by rw [trN_at ht hk2, if_pos rfl]
  have b22 : ∀ w, trN N T p (xk side) per c g (22 + 23 * p + w) = N (22 + 23 * p + w) := fun w => hPN _ (by omega) (by omega)
  have b220 : trN N T p (xk side) per c g (22 + 23 * p) = xr N p := b22 0
  have b221 : trN N T p (xk side) per c g (22 + 23 * p + 1) = xz N p := b22 1
  have hRP : Rzz (trN N T p (xk side) per c g (22 + 23 * p)) (trN N T p (xk side) per c g (22 + 23 * p + 1)) := by rw [b220, b221]; exact hrz
  have hsh := share_solv W.2.2 h hD hp hq hk2 (ht.k hk2) (by have := htold.2.2.2.2.1; omega) hRP h12 (xz N p) hfe
  have cu := cutF_eq hfe (c := T (5 * p + 3)) (by have := htold.2.2.2.2.1; omega)
  have hbo := h.bo W.2.2 hD hp hq hk2 (ht.k hk2) hRP
  have hb0 := h.bp hp hq hk2 (ht.k hk2)
  have hb1 := h.bp hp hq (show 1 - xk side < 2 by omega) (ht.k (by omega))
  have hn0 := h.2.1 p (xk side) hp hq hk2
  have hn1 := h.2.1 p (1 - xk side) hp hq (by omega)
  have hS0 := hn0.2.2
  have hS1 := hn1.2.2
  have hdk : D p (xk side) = 0 ∧ D p (1 - xk side) = 0 := by
    rcases (show xk side = 0 ∨ xk side = 1 by omega) with q | q <;> rw [q]
    · exact hd
    · exact ⟨hd.2, hd.1⟩
  unfold SolvD at hS0 hS1
  rw [b220, b221, hdk.1, Rat.intCast_zero, b22, b22] at hS0
  rw [b220, b221, hdk.2, Rat.intCast_zero, b22, b22] at hS1
  rw [b22] at hbo hb0 hb1
  have hm0 := hn0.1
  have hm0' := hn0.2.1
  have hm1' := hn1.2.1
  rw [b22] at hm0 hm0' hm1'
  have u1 := h.hU (uc T p (xk side) per - 2) (by omega)
  rw [show 2 + (uc T p (xk side) per - 2) = uc T p (xk side) per by omega] at u1
  have u2 := h.hU (uc T p (1 - xk side) per - 2) (by omega)
  rw [show 2 + (uc T p (1 - xk side) per - 2) = uc T p (1 - xk side) per by omega] at u2
  generalize eco : xCo N T L p side e o left = co at *
  generalize efe : xFe N T L p side e o left = fe at *
  generalize ego : xGo N T L p side e o left = go at *
  have ew : w64 (c + w64 (co + fe)) = c + (co + fe) := by rw [w64_id (x := co + fe) (by omega) (by omega), w64_id (by omega) (by omega)]
  have ew2 : w64 (g + go) = g + go := w64_id (by omega) (by omega)
  rw [ew, ew2]
  -- the step ahead of the drops
  generalize eQ : trN (x2 N T L p side e o left) T p (xk side) per (c + (co + fe)) (g + go) = Q
  have x2u : ∀ j, 2 ≤ j → j < 22 → x2 N T L p side e o left j = N j := fun j a1 a2 => x2_at (by unfold hc; omega) (by unfold hc; omega) (by omega) (by unfold hoC; omega) (by omega) (by omega)
  have Qu1 : Q (uc T p (xk side) per) = trN N T p (xk side) per c g (uc T p (xk side) per) - (co + fe) := by
    rw [← eQ, trN_at ht hk2, if_neg hne, if_pos rfl, x2u _ r1.1 r1.2]
    rw [hPu1] at hpay u1 ⊢
    have d1 := w64_d (N (uc T p (xk side) per) + w64 (-c))
    have d2 := w64_d (-c)
    have d3 := w64_d (-(c + (co + fe)))
    have d4 := w64_d (N (uc T p (xk side) per) + w64 (-(c + (co + fe))))
    have e1 : w64 (N (uc T p (xk side) per) + w64 (-(c + (co + fe)))) = w64 (w64 (N (uc T p (xk side) per) + w64 (-c)) - (co + fe)) := by
      rw [w64_iff]
      omega
    rw [e1, w64_id (by omega) (by omega)]
  have Qu2 : Q (uc T p (1 - xk side) per) = trN N T p (xk side) per c g (uc T p (1 - xk side) per) + go := by
    rw [← eQ, trN_at ht hk2, if_pos rfl, x2u _ r2.1 r2.2]
    rw [hPu2] at u2 ⊢
    have d1 := w64_d (N (uc T p (1 - xk side) per) + g)
    have e1 : w64 (N (uc T p (1 - xk side) per) + (g + go)) = w64 (w64 (N (uc T p (1 - xk side) per) + g) + go) := by
      rw [w64_iff]
      omega
    rw [e1, w64_id (by omega) (by omega)]
  have Qx : ∀ j, j ≠ uc T p (xk side) per → j ≠ uc T p (1 - xk side) per → Q j = x2 N T L p side e o left j := fun j a1 a2 => by rw [← eQ, trN_at ht hk2, if_neg a2, if_neg a1]
  have Qr : Q (22 + 23 * p) = xRt N T L p side e o left := by rw [Qx _ (by omega) (by omega)]; exact x2r
  have Qz : Q (22 + 23 * p + 1) = xZ N T L p side e o left := by rw [Qx _ (by omega) (by omega)]; exact x2z
  have ehk : hc p (xk side) = 22 + 23 * p + (2 + xk side) := rfl
  have ehj : hc p (1 - xk side) = 22 + 23 * p + (2 + (1 - xk side)) := rfl
  have eok : hoC p (xk side) = 22 + 23 * p + (4 + xk side) := rfl
  have Qh1 : Q (hc p (xk side)) = N (hc p (xk side)) + (co + fe) := by
    rw [Qx _ (by omega) (by omega), x2a, ehk, w64_id (x := co + fe) (by omega) (by omega), w64_id (by omega) (by omega)]
  have Qh2 : Q (hc p (1 - xk side)) = N (hc p (1 - xk side)) - go := by
    rw [Qx _ (by omega) (by omega), x2b, ehj, w64_sl, w64_id (by omega) (by omega)]
  have Qo : Q (hoC p (xk side)) = N (hoC p (xk side)) + cutF fe (T (5 * p + 3)) := by
    rw [Qx _ (by omega) (by omega), x2c, eok, w64_id (by omega) (by omega)]
  have Qoth : ∀ j, j ≠ uc T p (xk side) per → j ≠ uc T p (1 - xk side) per → j ≠ hc p (xk side) → j ≠ hc p (1 - xk side) → j ≠ hoC p (xk side) → j ≠ 22 + 23 * p → j ≠ 22 + 23 * p + 1 → j ≠ 1 → Q j = trN N T p (xk side) per c g j := fun j a1 a2 a3 a4 a5 a6 a7 a8 => by
    rw [Qx j a1 a2, hPN j a1 a2]
    exact x2_at a3 a4 a6 a5 a7 a8
  have Qoj : Q (22 + 23 * p + (4 + (1 - xk side))) = N (22 + 23 * p + (4 + (1 - xk side))) := by
    rw [Qoth _ (by omega) (by omega) (by omega) (by omega) (by omega) (by omega) (by omega) (by omega)]
    exact b22 _
  have eL1 : xL1 N T L p side e o left = shR T L p (xz N p) (xk side) fe := by unfold xL1; rw [efe]
  have hLs : Lok pe po (shR T L p (xz N p) (xk side) fe) := shR_ok W.2.2 p (xz N p) (xk side) fe
  have s0 : SolvD D Q (shR T L p (xz N p) (xk side) fe) p (xk side) := by
    unfold SolvD
    rw [Qr, Qz, hdk.1, Rat.intCast_zero, ← ehk, ← eok, Qh1, Qo, Rat.intCast_add, Rat.intCast_add, Rat.intCast_add]
    have q1 := hsh.1 (xRt N T L p side e o left) (xZ N T L p side e o left)
    have q2 := hmv (xk side) hk2
    rw [← ehk, ← eok] at hS0
    grind
  have s1 : SolvD D Q (shR T L p (xz N p) (xk side) fe) p (1 - xk side) := by
    unfold SolvD
    rw [Qr, Qz, hdk.2, Rat.intCast_zero, Qoj, ← ehj, Qh2, Rat.intCast_sub]
    have q1 := hsh.2.1 p (1 - xk side) (xRt N T L p side e o left) (xZ N T L p side e o left) (by omega) (Or.inr (by omega))
    have q2 := hmv (1 - xk side) (by omega)
    rw [← ehj] at hS1
    rw [q1]
    grind
  have hM1 : MnyD D Q T (shR T L p (xz N p) (xk side) fe) po := by
    refine Mny_mv (ci := co + fe) (go := go) (cut := cutF fe (T (5 * p + 3))) h hp hq hper hk2 ht Qu1 Qu2 (by rw [Qh1, hPN _ (by omega) (by omega)]) (by rw [Qh2, hPN _ (by omega) (by omega)]) (by rw [Qo, hPN _ (by omega) (by omega)]) cu.1 (by omega) hgo.1 Qoth (by rw [Qu1]; omega) s0 s1 hdk.2 ?_ ?_ hsh.2.2
    · rw [Qr, Qz]
      exact sumR_nn (claim_nn hLs hsh.2.2 nrz p (by omega))
    · intro q k' hq5 hqo hqp hk'
      exact hsh.2.1 q k' _ _ hk' (Or.inl hqp)
  have WQ : WF Q T (shR T L p (xz N p) (xk side) fe) th pe po := by
    rw [eL1] at W2
    refine ⟨W2.1, fun q hq5 hqo => ⟨(W2.2.1 q hq5 hqo).1, ?_⟩, W2.2.2⟩
    have := (W2.2.1 q hq5 hqo).2
    unfold Rz at *
    rw [Qx _ (by omega) (by omega), Qx _ (by omega) (by omega)]
    exact this
  have hfin : ∀ N' L', N' = Q → L' = shR T L p (xz N p) (xk side) fe → MnyD D N' T L' po ∧ trN N T p (xk side) per c g (uc T p (xk side) per) - (co + fe) ≤ N' (uc T p (xk side) per) := fun N' L' e1 e2 => by
    subst e1
    subst e2
    exact ⟨hM1, by rw [Qu1]; exact Int.le_refl _⟩
  unfold xN xL
  by_cases cC : xC N T L p side e o left = true
  · rw [if_pos cC, if_pos cC, eL1, trN_drN ht hk2 hLs (by omega), eQ, ← Qr, ← Qz]
    obtain ⟨d1, d2⟩ := drop_money WQ hM1 hD hp hq hd side (xA N L p side e)
    have d3 := d2 (uc T p (xk side) per - 2) (by omega)
    rw [show 2 + (uc T p (xk side) per - 2) = uc T p (xk side) per by omega, Qu1] at d3
    exact ⟨d1, d3⟩
  · rw [if_neg cC, if_neg cC]
    exact hfin _ _ eQ eL1
end ST
