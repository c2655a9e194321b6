/-! pouring and draining in earnest -/
section PO1
variable {M : MZ} {b : Nat} {kk : Bool} {N N1 T : Nat → Int} {L : List (Nat → Int)} {th pe po : Int}
/-- how the market lies behind a swap done -/
def Done (kk : Bool) (M : MZ) (b : Nat) (T : Nat → Int) (th pe po : Int) (p : Nat) (side per : Int) (s : SW) (M' : MZ) : Prop := (per = -1 → Rep kk M' b s.1 T s.2.1 th pe po) ∧ (∀ q : Nat, q < 4 → per = q → Rep kk M' b (trN s.1 T p (xk side) q s.2.2.2.1 s.2.2.2.2.1) T s.2.1 th pe po) ∧ (zL M' 4 10 = s.2.2.1 ∧ zL M' 4 11 = s.2.2.2.2.1 ∧ zL M' 4 12 = s.2.2.2.1) ∧ (∀ x, x ≠ 4 → ¬ (b ≤ x ∧ x < b + 65) → sameH M M' x)
theorem K_done (hb : bOK b) {M0 MF : MZ} {p : Nat} {side e o : Int} (hpb : Pbg p po side e o) {s : SW} (R : Rep kk MF b s.1 T s.2.1 th pe po) (W : WF s.1 T s.2.1 th pe po) {ae : Bool} (hS : TP MF b p side 1 ae (toP p s)) (F : ∀ x, x ≠ 4 → ¬ (b ≤ x ∧ x < b + 65) → sameH M0 MF x) {per : Int} (hper : per = -1 ∨ (0 ≤ per ∧ per < 4)) : ∃ M', ((g_X10_finish_76 per MF).bind fun q => some ((), q.2)) = some ((), M') ∧ Done kk M0 b T th pe po p side per s M' := by
  obtain ⟨hp, hq, hs, _, he⟩ := hpb
  obtain ⟨hk, hk2⟩ := xk_r hs
  have hb4' : ¬ (b ≤ 4 ∧ 4 < b + 65) := by rcases hb with rfl | rfl <;> omega
  obtain ⟨⟨u0, u1, u2, u3, u4, u5, u8, u10, u11⟩, u12, u13, u9, u6⟩ := hS
  rcases hper with h | h
  · subst h
    rw [K_finish_no]
    simp only [bindS]
    exact ⟨MF, rfl, fun _ => R, fun q _ h => by omega, ⟨u10, u11, u12⟩, F⟩
  · obtain ⟨n, rfl⟩ := zR_nat h.1
    obtain ⟨M1, a1, a2, a3⟩ := K_finish_per hb hp hq hk2 (show n < 4 by omega) (W.t2 hp hq) R hk.symm u0 u1 u3 u11 u12
    rw [a1]
    simp only [bindS]
    have s4 := a3 4 hb4'
    refine ⟨M1, rfl, fun h => by omega, fun q _ h => ?_, ⟨by rw [(s4 10).2.1]; exact u10, by rw [(s4 11).2.1]; exact u11, by rw [(s4 12).2.1]; exact u12⟩, fun x h1 h2 => (F x h1 h2).trans (a3 x h2)⟩
    have : n = q := by omega
    subst this
    exact a2
theorem TP_ae {p : Nat} {side re : Int} {ae : Bool} {s : PT} (h : TP M b p side re ae s) (ae' : Bool) : TP (uI M 4 6 (if ae' then 1 else 0)) b p side re ae' s := by
  obtain ⟨⟨a0, a1, a2, a3, a4, a5, a8, a10, a11⟩, a12, a13, a9, a6⟩ := h
  refine ⟨⟨a0, a1, ?_, ?_, ?_, ?_, ?_, a10, a11⟩, a12, a13, ?_, zI_at _ _ _ _⟩
  · rw [zI_uI, if_neg (by omega)]; exact a2
  · rw [zI_uI, if_neg (by omega)]; exact a3
  · rw [zI_uI, if_neg (by omega)]; exact a4
  · rw [zI_uI, if_neg (by omega)]; exact a5
  · rw [zI_uI, if_neg (by omega)]; exact a8
  · rw [zI_uI, if_neg (by omega)]; exact a9
theorem K_pour1 (hb : bOK b) (R : Rep kk M b N T L th pe po) (W1 : WF N1 T L th pe po) {p : Nat} {side e amount : Int} (hpb : Pbg p po side e 0) (hm : MkO kk M b p N1 T L th pe po (N 0)) (hr : N1 (22 + 23 * p) = N (22 + 23 * p) ∧ N1 (22 + 23 * p + 1) = N (22 + 23 * p + 1)) (ha : 0 < amount ∧ amount ≤ 10000000000) {per : Int} (hper : per = -1 ∨ (0 ≤ per ∧ per < 4)) : ∃ M', g_X10_pour b per p side amount e 1 M = some ((), M') ∧ Done kk M b T th pe po p side per (swap N1 T L p side amount e 0) M' := by
  have hpb' := hpb
  obtain ⟨hp, hq, hs, _, he⟩ := hpb'
  have hrz : Rzz (xr N1 p) (xz N1 p) := (W1.2.1 p hp hq).2
  have hz := hrz.1
  have b1 := rtz_r (t := xz N1 p) (by omega) (by omega)
  have b2 := rtz_r (t := xz N1 p + 1) (by omega) (by omega)
  have hr' := hrz.2
  obtain ⟨M1, s1, s2, s3, s4⟩ := K_start1 hb R hp hq hm hs amount
  have ew1 : w32 (N (22 + 23 * p)) = xr N1 p := by rw [← hr.1]; exact w32_id (by show _ ≤ xr N1 p; omega) (by show xr N1 p ≤ _; omega)
  have ew2 : w32 (N (22 + 23 * p + 1)) = xz N1 p := by rw [← hr.2]; exact w32_id (by show _ ≤ xz N1 p; omega) (by show xz N1 p ≤ _; omega)
  rw [ew1, ew2] at s2
  have m3 : zI M1 4 3 = side := s2.1.2.2.2.1
  have m8 : zI M1 4 8 = xz N1 p := s2.1.2.2.2.2.2.2.1
  have S2 := TP_ae s2 (ae0 N1 p side e)
  have F2 : ∀ x, x ≠ 4 → sameH M1 (uI M1 4 6 (if ae0 N1 p side e then 1 else 0)) x := fun x hx => sameH_uI hx
  obtain ⟨MF, c1, c2, c3, ⟨ae, c4⟩, c5⟩ := K_real_run hb (s3.not4 hb F2) W1 hpb ha S2 per
  obtain ⟨M3, d1, d2⟩ := K_done (M0 := M) hb hpb c2 c3 c4 (fun x h1 h2 => ((s4 x h1 h2).trans (F2 x h1)).trans (c5 x h1 h2)) hper
  refine ⟨M3, ?_, d2⟩
  have c1' : g_X10_pour_61 100000 per e 0 (uI M1 4 6 (if ae0 N1 p side e then 1 else 0)) = some ((), M3) := by
    rw [d1] at c1
    unfold loopO at c1
    rw [if_pos rfl] at c1
    exact c1
  unfold g_X10_pour g_X10_pour_55
  rw [s1]
  simp only [bindS]
  rw [if_neg (show ¬ (1 : Int) = 0 by omega), m3, m8]
  rcases hs with rfl | rfl
  · have ha0 : ae0 N1 p 0 e = decide (xz N1 p < e) := if_pos rfl
    rw [ha0] at c1'
    rw [if_pos rfl]
    by_cases c : e ≤ xz N1 p
    · rw [if_pos c, if_pos (Or.inl trivial)]
      rw [decide_eq_false (show ¬ xz N1 p < e by omega)] at c1'
      exact c1'
    · rw [if_neg c, if_pos (Or.inr trivial)]
      rw [decide_eq_true (show xz N1 p < e by omega)] at c1'
      exact c1'
  · have ha0 : ae0 N1 p 1 e = decide (e ≤ xz N1 p) := if_neg (by omega)
    rw [ha0] at c1'
    rw [if_neg (show ¬ (1 : Int) = 0 by omega)]
    by_cases c : xz N1 p < e
    · rw [if_pos c, if_pos (Or.inl trivial)]
      rw [decide_eq_false (show ¬ e ≤ xz N1 p by omega)] at c1'
      exact c1'
    · rw [if_neg c, if_pos (Or.inr trivial)]
      rw [decide_eq_true (show e ≤ xz N1 p by omega)] at c1'
      exact c1'
end PO1
