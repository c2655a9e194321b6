/-! a swap of nothing, too -/
section Z0
variable {M : MZ} {T : Nat → Int} {th pe po : Int}
theorem R_swaps0 {N : Nat → Int} {L : List (Nat → Int)} (R : RepR M N T L th pe po) (K : KON M) (W : WF N T L th pe po) {p : Nat} {side e o amount : Int} (hb : Pbg p po side e o) (ha : 0 ≤ amount ∧ amount ≤ 10000000000) : ∃ M', g_X12_swaps p side amount e o M = some ((), M') ∧ RS M' T th pe po (swap N T L p side amount e o) ∧ WF (swap N T L p side amount e o).1 T (swap N T L p side amount e o).2.1 th pe po ∧ KON M' ∧ FrS M M' ∧ (swap N T L p side amount e o).2.1.length ≤ 12 ∧ (0 ≤ (swap N T L p side amount e o).2.2.1 ∧ (swap N T L p side amount e o).2.2.1 ≤ 10000000000) := by
  obtain ⟨h1, h2, h3, h4, h5⟩ := hb
  have hrz : Rzz (xr N p) (xz N p) := (W.2.1 p h1 h2).2
  have hz := hrz.1
  have hPae : Pae p side e (ae0 N p side e) (N, L, amount, 0, 0, 0, 0) := by
    refine ⟨fun q => ?_, by show 0 ≤ amount ∧ amount ≤ 10000000000; omega⟩
    unfold ae0 at q
    show if side = 0 then e ≤ xz N p else xz N p < e
    rcases h3 with rfl | rfl
    · rw [if_pos rfl] at q ⊢
      have := of_decide_eq_false q
      omega
    · rw [if_neg (by omega)] at q ⊢
      have := of_decide_eq_false q
      omega
  have hm : swm p side e (ae0 N p side e) (N, L, amount, 0, 0, 0, 0) ≤ ((50 : Nat) : Int) := by
    unfold swm
    split
    · omega
    · split
      · show xz N p - e + 1 ≤ _; omega
      · show e - xz N p ≤ _; omega
  generalize eM1 : uI (uL (uL (uL (uL M 20 29 amount) 20 30 0) 20 31 0) 20 32 0) 20 33 0 = M1
  have R1 : RepR M1 N T L th pe po := by rw [← eM1]; exact ((((R.scL 29 _).scL 30 _).scL 31 _).scL 32 _).scI (by omega) _
  have K1 : KON M1 := by rw [← eM1]; exact ((((K.scL (by omega) _).scL (by omega) _).scL (by omega) _).scL (by omega) _).scI 33 _
  have z1 : ∀ k, zL M1 20 k = if k = 32 then 0 else if k = 31 then 0 else if k = 30 then 0 else if k = 29 then amount else zL M 20 k := by
    intro k
    rw [← eM1, zL_uI, zL_uL, zL_uL, zL_uL, zL_uL]
    simp only [true_and]
  have i1 : ∀ k, zI M1 20 k = if k = 33 then 0 else zI M 20 k := by
    intro k
    rw [← eM1, zI_uI, zI_uL, zI_uL, zI_uL, zI_uL]
    simp only [true_and]
  have F1 : FrS M M1 := by
    refine ⟨fun x y1 y2 => ?_, fun k hk => by rw [i1, if_neg hk], fun k hk => by rw [z1, if_neg (by omega), if_neg (by omega), if_neg (by omega), if_neg (by omega)]⟩
    rw [← eM1]
    exact ((((sameH_uL y1).trans (sameH_uL y1)).trans (sameH_uL y1)).trans (sameH_uL y1)).trans (sameH_uI y1)
  have RS1 : RS M1 T th pe po (N, L, amount, 0, 0, 0, 0) := ⟨R1, by rw [z1, if_neg (by omega), if_neg (by omega), if_neg (by omega), if_pos rfl], by rw [z1, if_neg (by omega), if_neg (by omega), if_pos rfl], by rw [z1, if_neg (by omega), if_pos rfl], by rw [z1, if_pos rfl], by rw [i1, if_pos rfl]⟩
  obtain ⟨M2, b1, b2, b3, b4, b5, b6, b7⟩ := R_swaps_loop (T := T) (th := th) (pe := pe) ⟨h1, h2, h3, h4, h5⟩ 50 100000 M1 (ae0 N p side e) (N, L, amount, 0, 0, 0, 0) hm (by omega) K1 RS1 W hPae
  refine ⟨M2, ?_, b2, b3, b4, F1.trans b5, b6, b7⟩
  unfold g_X12_swaps g_X12_swaps_15 g_X12_swaps_62
  rw [eM1, R_zone R1 h1 hz]
  simp only [bindS]
  rcases h3 with rfl | rfl
  · have ha0 : ae0 N p 0 e = decide (xz N p < e) := if_pos rfl
    rw [ha0] at b1
    rw [if_pos rfl]
    by_cases c : e ≤ xz N p
    · have c' : e ≤ N (22 + 23 * p + 1) := c
      rw [if_pos c']
      have hd : decide (xz N p < e) = false := decide_eq_false (by omega)
      rw [hd] at b1
      exact b1
    · have c' : ¬ e ≤ N (22 + 23 * p + 1) := c
      rw [if_neg c']
      have hd : decide (xz N p < e) = true := decide_eq_true (by omega)
      rw [hd] at b1
      exact b1
  · have ha0 : ae0 N p 1 e = decide (e ≤ xz N p) := if_neg (by omega)
    rw [ha0] at b1
    rw [if_neg (by omega)]
    by_cases c : xz N p < e
    · have c' : N (22 + 23 * p + 1) < e := c
      rw [if_pos c']
      have hd : decide (e ≤ xz N p) = false := decide_eq_false (by omega)
      rw [hd] at b1
      exact b1
    · have c' : ¬ N (22 + 23 * p + 1) < e := c
      rw [if_neg c']
      have hd : decide (e ≤ xz N p) = true := decide_eq_true (by omega)
      rw [hd] at b1
      exact b1
end Z0
section Z1
variable {M : MZ} {b : Nat} {kk : Bool} {N N1 T : Nat → Int} {L : List (Nat → Int)} {th pe po : Int}
theorem K_real_run0 (hb : bOK b) (R1 : Rep kk M b N1 T L th pe po) (W1 : WF N1 T L th pe po) {p : Nat} {side e o amount : Int} (hpb : Pbg p po side e o) (ha : 0 ≤ amount ∧ amount ≤ 10000000000) (hS : TP M b p side 1 (ae0 N1 p side e) (xr N1 p, xz N1 p, amount, 0, 0, 0, 0)) (per : Int) : ∃ MF, loopO o 100000 per e 0 M = ((g_X10_finish_76 per MF).bind fun q => some ((), q.2)) ∧ Rep kk MF b (swap N1 T L p side amount e o).1 T (swap N1 T L p side amount e o).2.1 th pe po ∧ WF (swap N1 T L p side amount e o).1 T (swap N1 T L p side amount e o).2.1 th pe po ∧ (∃ ae, TP MF b p side 1 ae (toP p (swap N1 T L p side amount e o))) ∧ (∀ x, x ≠ 4 → ¬ (b ≤ x ∧ x < b + 65) → sameH M MF x) := by
  have hpb' := hpb
  obtain ⟨hp, hq, hs, _, he⟩ := hpb'
  obtain ⟨hk, hk2⟩ := xk_r hs
  have hb4' : ¬ (b ≤ 4 ∧ 4 < b + 65) := by rcases hb with rfl | rfl <;> omega
  have hrz : Rzz (xr N1 p) (xz N1 p) := (W1.2.1 p hp hq).2
  have hz := hrz.1
  have hm : swm p side e (ae0 N1 p side e) (N1, L, amount, 0, 0, 0, 0) ≤ (50 : Nat) := by
    unfold swm
    split
    · omega
    · split
      · show xz N1 p - e + 1 ≤ _; omega
      · show e - xz N1 p ≤ _; omega
  have hP0 : Pd (dlt p (xk side) 0 0 0) N1 N1 := ⟨fun j => by unfold dlt; split <;> split <;> split <;> omega, fun _ _ => rfl⟩
  obtain ⟨M2, ae, N2, c1, c2, c3, c4, c5, c6⟩ := K_real_loop hb hpb per 50 100000 0 M (ae0 N1 p side e) (N1, L, amount, 0, 0, 0, 0) N1 hm (by omega) (by omega) R1 hP0 W1 hS ⟨fun q => ae0_ge hs q, by show 0 ≤ amount ∧ amount ≤ 10000000000; omega⟩
  have es : swp T p side e o 50 (ae0 N1 p side e) (N1, L, amount, 0, 0, 0, 0) = swap N1 T L p side amount e o := rfl
  rw [es] at c2 c3 c4 c5
  have c5' := c5
  obtain ⟨⟨u0, u1, u2, u3, u4, u5, u8, u10, u11⟩, u12, u13, u9, u6⟩ := c5'
  obtain ⟨MF, f1, f2, f3⟩ := K_finishA hb hp hq hk2 c2 c3 hk.symm u0 u1 u3 u4 u9 u11 u12 per
  have s4 := f3 4 hb4'
  refine ⟨MF, ?_, f2, c4, ⟨ae, ?_⟩, fun x h1 h2 => (c6 x h1 h2).trans (f3 x h2)⟩
  · rw [show ((0 : Nat) : Int) = 0 from rfl] at c1
    rw [c1]
    unfold finO
    rw [f1]
  · exact ⟨⟨by rw [(s4 0).2.2]; exact u0, by rw [(s4 1).2.2]; exact u1, by rw [(s4 2).1]; exact u2, by rw [(s4 3).1]; exact u3, by rw [(s4 4).1]; exact u4, by rw [(s4 5).1]; exact u5, by rw [(s4 8).1]; exact u8, by rw [(s4 10).2.1]; exact u10, by rw [(s4 11).2.1]; exact u11⟩, by rw [(s4 12).2.1]; exact u12, by rw [(s4 13).2.1]; exact u13, by rw [(s4 9).1]; exact u9, by rw [(s4 6).1]; exact u6⟩
theorem K_pour10 (hb : bOK b) (R : Rep kk M b N T L th pe po) (W1 : WF N1 T L th pe po) {p : Nat} {side e amount : Int} (hpb : Pbg p po side e 0) (hm : MkO kk M b p N1 T L th pe po (N 0)) (hr : N1 (22 + 23 * p) = N (22 + 23 * p) ∧ N1 (22 + 23 * p + 1) = N (22 + 23 * p + 1)) (ha : 0 ≤ amount ∧ amount ≤ 10000000000) {per : Int} (hper : per = -1 ∨ (0 ≤ per ∧ per < 4)) : ∃ M', g_X10_pour b per p side amount e 1 M = some ((), M') ∧ Done kk M b T th pe po p side per (swap N1 T L p side amount e 0) M' := by
  have hpb' := hpb
  obtain ⟨hp, hq, hs, _, he⟩ := hpb'
  have hrz : Rzz (xr N1 p) (xz N1 p) := (W1.2.1 p hp hq).2
  have hz := hrz.1
  have b1 := rtz_r (t := xz N1 p) (by omega) (by omega)
  have b2 := rtz_r (t := xz N1 p + 1) (by omega) (by omega)
  have hr' := hrz.2
  obtain ⟨M1, s1, s2, s3, s4⟩ := K_start1 hb R hp hq hm hs amount
  have ew1 : w32 (N (22 + 23 * p)) = xr N1 p := by rw [← hr.1]; exact w32_id (by show _ ≤ xr N1 p; omega) (by show xr N1 p ≤ _; omega)
  have ew2 : w32 (N (22 + 23 * p + 1)) = xz N1 p := by rw [← hr.2]; exact w32_id (by show _ ≤ xz N1 p; omega) (by show xz N1 p ≤ _; omega)
  rw [ew1, ew2] at s2
  have m3 : zI M1 4 3 = side := s2.1.2.2.2.1
  have m8 : zI M1 4 8 = xz N1 p := s2.1.2.2.2.2.2.2.1
  have S2 := TP_ae s2 (ae0 N1 p side e)
  have F2 : ∀ x, x ≠ 4 → sameH M1 (uI M1 4 6 (if ae0 N1 p side e then 1 else 0)) x := fun x hx => sameH_uI hx
  obtain ⟨MF, c1, c2, c3, ⟨ae, c4⟩, c5⟩ := K_real_run0 hb (s3.not4 hb F2) W1 hpb ha S2 per
  obtain ⟨M3, d1, d2⟩ := K_done (M0 := M) hb hpb c2 c3 c4 (fun x h1 h2 => ((s4 x h1 h2).trans (F2 x h1)).trans (c5 x h1 h2)) hper
  refine ⟨M3, ?_, d2⟩
  have c1' : g_X10_pour_61 100000 per e 0 (uI M1 4 6 (if ae0 N1 p side e then 1 else 0)) = some ((), M3) := by
    rw [d1] at c1
    unfold loopO at c1
    rw [if_pos rfl] at c1
    exact c1
  unfold g_X10_pour g_X10_pour_55
  rw [s1]
  simp only [bindS]
  rw [if_neg (show ¬ (1 : Int) = 0 by omega), m3, m8]
  rcases hs with rfl | rfl
  · have ha0 : ae0 N1 p 0 e = decide (xz N1 p < e) := if_pos rfl
    rw [ha0] at c1'
    rw [if_pos rfl]
    by_cases c : e ≤ xz N1 p
    · rw [if_pos c, if_pos (Or.inl trivial)]
      rw [decide_eq_false (show ¬ xz N1 p < e by omega)] at c1'
      exact c1'
    · rw [if_neg c, if_pos (Or.inr trivial)]
      rw [decide_eq_true (show xz N1 p < e by omega)] at c1'
      exact c1'
  · have ha0 : ae0 N1 p 1 e = decide (e ≤ xz N1 p) := if_neg (by omega)
    rw [ha0] at c1'
    rw [if_neg (show ¬ (1 : Int) = 0 by omega)]
    by_cases c : xz N1 p < e
    · rw [if_pos c, if_pos (Or.inl trivial)]
      rw [decide_eq_false (show ¬ e ≤ xz N1 p by omega)] at c1'
      exact c1'
    · rw [if_neg c, if_pos (Or.inr trivial)]
      rw [decide_eq_true (show e ≤ xz N1 p by omega)] at c1'
      exact c1'
theorem swap_zero (p : Nat) (side e o : Int) : swap N T L p side 0 e o = (N, L, 0, 0, 0, 0, 0) := by
  unfold swap
  have e2 : swp T p side e o 50 (ae0 N p side e) (N, L, 0, 0, 0, 0, 0) = if (0 : Int) ≤ 0 ∨ ae0 N p side e = true then (N, L, 0, 0, 0, 0, 0) else swp T p side e o 49 (xE N T L p side e o 0) (swS T p side e o (N, L, 0, 0, 0, 0, 0)) := rfl
  rw [e2, if_pos (Or.inl (Int.le_refl _))]
theorem swap_WF00 (W : WF N T L th pe po) (h12 : L.length ≤ 12) {p : Nat} {side e amount : Int} (hb : Pbg p po side e 0) (ha : 0 ≤ amount ∧ amount ≤ 10000000000) : WF (swap N T L p side amount e 0).1 T (swap N T L p side amount e 0).2.1 th pe po ∧ (swap N T L p side amount e 0).2.1.length ≤ 12 ∧ 0 ≤ (swap N T L p side amount e 0).2.2.2.2.1 ∧ (swap N T L p side amount e 0).2.2.2.2.1 ≤ 9000000000 := by
  by_cases c : amount = 0
  · rw [c, swap_zero]
    exact ⟨W, h12, by show (0 : Int) ≤ 0; omega, by show (0 : Int) ≤ 9000000000; omega⟩
  · have h := swap_WF0 W h12 hb (amount := amount) (by omega)
    have h2 := swap_gone W h12 hb (amount := amount) (by omega)
    exact ⟨h.1, h.2.1, h2.1, h2.2⟩
end Z1
