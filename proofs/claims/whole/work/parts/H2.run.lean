/-! a bundle is done: steps that begin -/
def BRo (Mc Mr : MZ) (D : Nat → Nat → Int) (m j o : Nat) : Prop := zI Mc 10 j = o ∧ zI Mr 35 j = o ∧ ((zI Mr 28 o = 6 ∧ zI Mc 11 j = zI Mr 36 j ∧ (1 ≤ zI Mr 36 j ∧ zI Mr 36 j ≤ 20)) ∨ (zI Mr 28 o = 5 ∧ zI Mr 36 j = 1 ∧ zI Mc 12 j = zL Mr 37 j ∧ (1 ≤ zL Mr 37 j ∧ zL Mr 37 j ≤ 39999996) ∧ ∃ p k : Nat, p < 5 ∧ k < 2 ∧ zI Mr 30 (4 * o) = p ∧ zI Mr 30 (4 * o + 1) = k ∧ m / 2 ^ p % 2 = 1 ∧ D p k = zL Mr 37 j ∧ D p (1 - k) = 0))
theorem BRo.mv {Mc Mr Mc' Mr' : MZ} {D D' : Nat → Nat → Int} {m m' j o : Nat} (h : BRo Mc Mr D m j o) (h10 : zI Mc' 10 j = zI Mc 10 j) (h11 : zI Mc' 11 j = zI Mc 11 j) (h12 : zI Mc' 12 j = zI Mc 12 j) (h35 : zI Mr' 35 j = zI Mr 35 j) (h36 : zI Mr' 36 j = zI Mr 36 j) (h37 : zL Mr' 37 j = zL Mr 37 j) (h28 : zI Mr' 28 o = zI Mr 28 o) (h30 : ∀ k, zI Mr' 30 k = zI Mr 30 k) (hd : ∀ p k : Nat, p < 5 → k < 2 → zI Mr 28 o = 5 → zI Mr 30 (4 * o) = p → m / 2 ^ p % 2 = 1 → m' / 2 ^ p % 2 = 1 ∧ D' p k = D p k) : BRo Mc' Mr' D' m' j o := by
  unfold BRo at *
  rw [h10, h11, h12, h35, h36, h37, h28, h30, h30]
  obtain ⟨a1, a2, a3⟩ := h
  refine ⟨a1, a2, a3.imp id ?_⟩
  rintro ⟨b1, b2, b3, b4, p, k, c1, c2, c3, c4, c5, c6, c7⟩
  exact ⟨b1, b2, b3, b4, p, k, c1, c2, c3, c4, (hd p k c1 c2 b1 c3 c5).1, by rw [(hd p k c1 c2 b1 c3 c5).2]; exact c6, by rw [(hd p (1 - k) c1 (by omega) b1 c3 c5).2]; exact c7⟩
def RUN (Mc Mr : MZ) (N T : Nat → Int) (L : List (Nat → Int)) (th pe po : Int) (D : Nat → Nat → Int) (m per sz at' dp dn : Nat) (st : Nat → Nat) : Prop :=
  CR Mc Mr N T L th pe po D m per ∧ SP Mc Mr sz 0 ∧ (zI Mc 9 0 = dn ∧ zI Mc 9 1 = 0 ∧ zI Mc 9 6 = at' ∧ zI Mc 9 7 = dp) ∧ (zI Mr 20 44 = dn ∧ zI Mr 20 50 = dp) ∧ (dn ≤ 100 ∧ dp ≤ 4 ∧ at' ≤ sz) ∧ (zL Mr 20 45 = zL Mc 9 8 ∧ 0 ≤ zL Mc 9 8 ∧ zL Mc 9 8 ≤ 1000000000000) ∧
  (∀ j, j < dp → st j < sz ∧ BRo Mc Mr D m j (st j)) ∧ (∀ j, j + 1 < dp → st j < st (j + 1) ∧ (st (j + 1) : Int) < zI Mr 32 (st j)) ∧ (∀ j, j + 1 = dp → st j < at' ∧ (at' : Int) ≤ zI Mr 32 (st j)) ∧ (∀ j j', j < j' → j' < dp → zI Mr 28 (st j) = 5 → zI Mr 28 (st j') = 5 → zI Mr 30 (4 * st j) ≠ zI Mr 30 (4 * st j')) ∧ (∀ q : Nat, q < 5 → m / 2 ^ q % 2 = 1 → ∃ j, j < dp ∧ zI Mr 28 (st j) = 5 ∧ zI Mr 30 (4 * st j) = (q : Int))
def EV (Mr : MZ) (at' dp : Nat) (st : Nat → Nat) (e : Nat) : Prop := e ≤ 1 ∧ ∀ j, j + 1 = dp → (at' : Int) = zI Mr 32 (st j) → e = 1
def TOK (Mc Mr : MZ) (T : Nat → Int) (th pe po : Int) (per sz mu : Nat) (A : Option (Unit × MZ)) (C : (Int → MZ → Option (Int × MZ)) → Option (Int × MZ)) : Prop := ∃ (Mc' Mr' : MZ) (N' : Nat → Int) (L' : List (Nat → Int)) (D' : Nat → Nat → Int) (m' at' dp' dn' : Nat) (st' : Nat → Nat) (e' : Nat), A = some ((), Mc') ∧ (∀ k7, C k7 = k7 (at' : Int) Mr') ∧ FCT Mc Mc' ∧ FRT Mr Mr' ∧ RUN Mc' Mr' N' T L' th pe po D' m' per sz at' dp' dn' st' ∧ EV Mr' at' dp' st' e' ∧ 6 * (100 - dn') + dp' + e' < mu
def TNO (Mc Mr : MZ) (A : Option (Unit × MZ)) (C : (Int → MZ → Option (Int × MZ)) → Option (Int × MZ)) : Prop := ∃ (Mc' Mr' : MZ) (fl : Int), A = some ((), Mc') ∧ (∀ k7, C k7 = k7 (-1) Mr') ∧ FCT Mc Mc' ∧ FRT Mr Mr' ∧ zI Mc' 9 1 = fl ∧ zI Mr' 20 10 = fl ∧ 0 < fl ∧ HP Mc' 78 ∧ KON Mr'
theorem fz_pos {k j : Int} (hk : 0 ≤ k ∧ k ≤ 7) (hj : 0 ≤ j ∧ j ≤ 400) : 0 < fz k j := by
  unfold fz
  rw [w32_id (x := 8 * j) (by omega) (by omega), w32_id (x := 1 + 8 * j) (by omega) (by omega), w32_id (by omega) (by omega)]
  omega
theorem SP.t {Mc Mr Mc' Mr' : MZ} {sz : Nat} (h : SP Mc Mr sz 0) (a : FCT Mc Mc') (c : FRT Mr Mr') : SP Mc' Mr' sz 0 := by
  obtain ⟨⟨h1, h2, h3⟩, ⟨h4, h5, h6⟩, h7, h8, h9⟩ := h
  have e34 : zI Mr' 34 = zI Mr 34 := funext fun k => (c.1 34 (by omega) (by omega) (by omega) (by omega) k).1
  have e32 : zI Mr' 32 = zI Mr 32 := funext fun k => (c.1 32 (by omega) (by omega) (by omega) (by omega) k).1
  have e28 : zI Mr' 28 = zI Mr 28 := funext fun k => (c.1 28 (by omega) (by omega) (by omega) (by omega) k).1
  refine ⟨⟨by rw [(a 6 (by omega) (by omega) (by omega) 0).1]; exact h1, by rw [c.2.1 34 (by omega) (by omega) (by omega) (by omega) (by omega)]; exact h2, h3⟩, ⟨by rw [(a 6 (by omega) (by omega) (by omega) 4).1]; exact h4, by rw [c.2.1 42 (by omega) (by omega) (by omega) (by omega) (by omega)]; exact h5, h6⟩, fun i hi => ⟨(h7 i hi).1.mv (fun k _ => (a (38 + i) (by omega) (by omega) (by omega) k).1) (c.1 28 (by omega) (by omega) (by omega) (by omega) i).1 (c.1 29 (by omega) (by omega) (by omega) (by omega) i).1 (fun k _ _ => (c.1 30 (by omega) (by omega) (by omega) (by omega) k).1) (c.1 31 (by omega) (by omega) (by omega) (by omega) i).1, ?_⟩, fun j hj => by omega, ?_⟩
  · rw [(a (38 + i) (by omega) (by omega) (by omega) 9).1, e32]; exact (h7 i hi).2
  · rw [e34, e32, e28]; exact h9
section RU
variable {Mc Mr : MZ} {N T : Nat → Int} {L : List (Nat → Int)} {th pe po : Int} {D : Nat → Nat → Int} {m per sz at' dp dn : Nat} {st : Nat → Nat}
theorem SP.af (h : SP Mc Mr sz 0) {i : Nat} (hi : i < sz) : ((i : Int) < zI Mr 32 i ∧ zI Mr 32 i ≤ sz) ∧ (5 ≤ zI Mr 28 i → (i : Int) + 2 ≤ zI Mr 32 i) ∧ ∀ i' : Nat, i < i' → (i' : Int) < zI Mr 32 i → zI Mr 32 i' ≤ zI Mr 32 i := by
  have := h.2.2.2.2.2.2.1 i hi (fun j hj => by omega)
  exact ⟨this.1, this.2.1, fun i' h1 h2 => (this.2.2 i' h1 h2).1⟩
theorem BRo.k {j o : Nat} (h : BRo Mc Mr D m j o) : 5 ≤ zI Mr 28 o := by
  rcases h.2.2 with q | q <;> omega
theorem RUN.deep (H : RUN Mc Mr N T L th pe po D m per sz at' dp dn st) (hs : at' < sz) (hk : 5 ≤ zI Mr 28 at') (hin : ∀ j, j + 1 = dp → (at' : Int) < zI Mr 32 (st j)) : dp ≤ 3 := by
  obtain ⟨_, hP, _, _, _, _, hB, hC, hE, _⟩ := H
  obtain ⟨_, _, _, lv, v1, v2, v3⟩ := hP.2.2.2.2
  have key : ∀ j, j < dp → j ≤ lv (st j) := by
    intro j
    induction j with
    | zero => intro _; omega
    | succ j ih =>
      intro hj
      have h1 := ih (by omega)
      have h2 := hC j hj
      have := v3 (st j) (st (j + 1)) h2.1 (hB (j + 1) hj).1 (hB j (by omega)).2.k (hB (j + 1) hj).2.k (Or.inr h2.2)
      omega
  have h3 := v2 at' hs hk
  by_cases c : dp = 0
  · omega
  · have h1 := key (dp - 1) (by omega)
    have h2 := hE (dp - 1) (by omega)
    have := v3 (st (dp - 1)) at' h2.1 hs (hB (dp - 1) (by omega)).2.k hk (Or.inr (hin (dp - 1) (by omega)))
    omega
/-- the count and the place go on -/
theorem CR.cnt (h : CR Mc Mr N T L th pe po D m per) {Mc' Mr' : MZ} (a1 : ∀ x, x ≠ 9 → sameH Mc Mc' x) (a2 : zI Mc' 9 5 = zI Mc 9 5) (b1 : ∀ x, x ≠ 20 → sameH Mr Mr' x) (b2 : ∀ k, k ≠ 44 → zI Mr' 20 k = zI Mr 20 k) (b3 : ∀ k, zL Mr' 20 k = zL Mr 20 k) : CR Mc' Mr' N T L th pe po D m per := by
  obtain ⟨R, RR, K, W, hM, hk, ht, hD, ⟨p1, p2, p3⟩, ⟨l1, l2, l3⟩, l4, l5⟩ := h
  exact ⟨R.same (fun x h1 h2 => a1 x (by omega)), RR.f20 (fun x hx => b1 x (by omega)) (fun k hk => b2 k (by omega)), K.f20 (fun x hx => b1 x (by omega)) (fun k _ => b3 k), W, hM, hk, ht, hD, ⟨by rw [a2]; exact p1, by rw [b2 43 (by omega)]; exact p2, p3⟩, ⟨by rw [b2 46 (by omega)]; exact l1, l2, fun q hq => by rw [(a1 13 (by omega) q).1]; exact l3 q hq⟩, l4, l5⟩
/-- a step without brackets -/
theorem step_fin (H : RUN Mc Mr N T L th pe po D m per sz at' dp dn st) (hs : at' < sz) (hdn : dn < 100) (hin : ∀ j, j + 1 = dp → (at' : Int) < zI Mr 32 (st j)) {Mc1 Mr1 : MZ} (e1 : Mc1 = uI (uI Mc 9 0 ((dn + 1 : Nat) : Int)) 9 6 ((at' + 1 : Nat) : Int)) (e2 : Mr1 = uI Mr 20 44 ((dn + 1 : Nat) : Int)) {ex : (Int → MZ → Option (Unit × MZ)) → Option (Unit × MZ)} {C0 : Option (Int × MZ)} (hA : ACP Mc1 Mr1 T th pe po D m per (fun f M => ∀ F, ex F = F f M) C0 (fz 5 (zI Mr1 29 at'))) {A : Option (Unit × MZ)} {C : (Int → MZ → Option (Int × MZ)) → Option (Int × MZ)} (eA : A = ex (g_X5_turn_299 (38 + at'))) (eC : ∀ k7, C k7 = C0.bind fun q => if q.1 = 0 then k7 (-1) q.2 else k7 ((at' + 1 : Nat) : Int) q.2) {mu : Nat} (hmu : 6 * (100 - dn) + dp ≤ mu) : TOK Mc Mr T th pe po per sz mu A C ∨ TNO Mc Mr A C := by
  obtain ⟨hR, hP, ⟨z0, z1, z6, z7⟩, ⟨y44, y50⟩, hb, hg, hB, hCh, hE, hDi, hLk⟩ := H
  have F1 : FCT Mc Mc1 := by rw [e1]; exact fun x h1 h2 h3 => (sameH_uI (by omega)).trans (sameH_uI (by omega))
  have G1 : FRT Mr Mr1 := by rw [e2]; exact ⟨fun x h1 _ _ _ => sameH_uI h1, fun k _ _ h44 _ _ => by rw [zI_uI, if_neg (fun q => h44 q.2)], fun _ _ => rfl, fun _ _ => rfl⟩
  have h40 := hP.1.2.2
  have hst := (hP.2.2.1 at' hs).1
  have epl : zI Mr1 29 at' = zI Mr 29 at' := by rw [e2, zI_uI, if_neg (by omega)]
  rcases hA with ⟨Mc2, Mr2, a1, a2, a3, a4, ⟨N', L', a5⟩, a6⟩ | ⟨Mc2, Mr2, a1, a2, a3, a4, a5, a6, a7⟩
  · have F2 := F1.trans a3.t
    have G2 := G1.trans a4.t
    refine Or.inl ⟨Mc2, Mr2, N', L', D, m, at' + 1, dp, dn + 1, st, 1, ?_, fun k7 => ?_, F2, G2, ⟨a5, hP.t F2 G2, ⟨?_, ?_, ?_, ?_⟩, ⟨?_, ?_⟩, by omega, a6, fun j hj => ⟨(hB j hj).1, (hB j hj).2.mv ?_ ?_ ?_ ?_ ?_ ?_ ?_ (fun k => ?_) (fun p k _ _ _ _ hb => ⟨hb, rfl⟩)⟩, fun j hj => ?_, fun j hj => ?_, fun j j' h1 h2 h3 h4 => ?_, fun q hq hb' => ?_⟩, ⟨by omega, fun _ _ _ => rfl⟩, by omega⟩
    · rw [eA, a1]
      unfold g_X5_turn_299 g_X5_turn_309
      rw [if_neg (by omega)]
    · rw [eC, a2]
      simp only [bindS]
      rw [if_neg (by omega)]
    · rw [a3.2, e1, zI_uI, if_neg (by omega), zI_at]
    · rw [a3.2, e1, zI_uI, if_neg (by omega), zI_uI, if_neg (by omega)]; exact z1
    · rw [a3.2, e1, zI_at]
    · rw [a3.2, e1, zI_uI, if_neg (by omega), zI_uI, if_neg (by omega)]; exact z7
    · rw [a4.2.1 44 (by omega) (by omega), e2, zI_at]
    · rw [a4.2.1 50 (by omega) (by omega), e2, zI_uI, if_neg (by omega)]; exact y50
    · rw [(a3.1 10 (by omega) (by omega) (by omega) j).1, e1, zI_uI, if_neg (by omega), zI_uI, if_neg (by omega)]
    · rw [(a3.1 11 (by omega) (by omega) (by omega) j).1, e1, zI_uI, if_neg (by omega), zI_uI, if_neg (by omega)]
    · rw [(a3.1 12 (by omega) (by omega) (by omega) j).1, e1, zI_uI, if_neg (by omega), zI_uI, if_neg (by omega)]
    · rw [(a4.1 35 (by omega) (by omega) (by omega) j).1, e2, zI_uI, if_neg (by omega)]
    · rw [(a4.1 36 (by omega) (by omega) (by omega) j).1, e2, zI_uI, if_neg (by omega)]
    · rw [(a4.1 37 (by omega) (by omega) (by omega) j).2.1, e2]; rfl
    · exact (G2.1 28 (by omega) (by omega) (by omega) (by omega) _).1
    · exact (G2.1 30 (by omega) (by omega) (by omega) (by omega) _).1
    · rw [(G2.1 32 (by omega) (by omega) (by omega) (by omega) _).1]; exact hCh j hj
    · rw [(G2.1 32 (by omega) (by omega) (by omega) (by omega) _).1]
      have := hin j hj
      have := hE j hj
      exact ⟨by omega, by omega⟩
    · rw [(G2.1 30 (by omega) (by omega) (by omega) (by omega) _).1, (G2.1 30 (by omega) (by omega) (by omega) (by omega) _).1]
      rw [(G2.1 28 (by omega) (by omega) (by omega) (by omega) _).1] at h3 h4
      exact hDi j j' h1 h2 h3 h4
    · obtain ⟨j, x1, x2, x3⟩ := hLk q hq hb'
      exact ⟨j, x1, by rw [(G2.1 28 (by omega) (by omega) (by omega) (by omega) _).1]; exact x2, by rw [(G2.1 30 (by omega) (by omega) (by omega) (by omega) _).1]; exact x3⟩
  · have F2 := F1.trans a3.t
    have G2 := G1.trans a4.t
    have ep : zI Mc2 (38 + at') 1 = zI Mr 29 at' := by rw [(F2 (38 + at') (by omega) (by omega) (by omega) 1).1]; exact hst.2.1.1
    refine Or.inr ⟨uI Mc2 9 1 (fz 5 (zI Mr 29 at')), Mr2, fz 5 (zI Mr 29 at'), ?_, fun k7 => ?_, F2.trans (fun x h1 h2 h3 => sameH_uI (by omega)), G2, zI_at _ _ _ _, by rw [a5, epl], fz_pos (by omega) hst.2.1.2, HP.same (fun _ _ => rfl) a6, a7⟩
    · rw [eA, a1]
      unfold g_X5_turn_299 g_X5_turn_309 g_X5_fail
      rw [if_pos rfl, if_pos (kdt at' (by omega)), ep]
      rfl
    · rw [eC, a2]
      simp only [bindS]
      rw [if_pos trivial]
end RU
