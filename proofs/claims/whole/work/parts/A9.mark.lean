/-! a mark is made: what the swap begins with -/
def mkB (N : Nat → Int) (p : Nat) : Nat → Int := fun j => if 22 + 23 * p + 7 ≤ j ∧ j < 22 + 23 * p + 21 then N (j + 2) else if j = 22 + 23 * p + 6 then 7 else N j
def mkC (N : Nat → Int) (p : Nat) : Nat → Int := if N (22 + 23 * p + 6) = 8 then mkB N p else N
def mkW (N : Nat → Int) (p : Nat) (t v : Int) : Nat → Int := ud (ud (ud N (22 + 23 * p + (7 + 2 * (N (22 + 23 * p + 6)).toNat)) t) (22 + 23 * p + (8 + 2 * (N (22 + 23 * p + 6)).toNat)) v) (22 + 23 * p + 6) (N (22 + 23 * p + 6) + 1)
def mkN (N : Nat → Int) (p : Nat) : Nat → Int := if mkt N p (N (22 + 23 * p + 6) - 1).toNat = N 0 then N else mkW (mkC N p) p (N 0) (sAt N p (N 0))
section MK
variable {M : MZ} {b : Nat} {kk : Bool} {N T : Nat → Int} {L : List (Nat → Int)} {th pe po : Int}
theorem Rep.marks {M' : MZ} {N' : Nat → Int} {p : Nat} (R : Rep kk M b N T L th pe po) (hp5 : p < 5) (hx : ∀ x, x ≠ b + 2 + 2 + 5 * p → x ≠ b + 2 + 2 + 5 * p + 3 → x ≠ b + 2 + 2 + 5 * p + 4 → sameH M M' x) (hI : ∀ k, k ≠ 7 → zI M' (b + 2 + 2 + 5 * p) k = zI M (b + 2 + 2 + 5 * p) k) (hN : ∀ j, ¬ (22 + 23 * p + 6 ≤ j ∧ j < 22 + 23 * p + 23) → N' j = N j) (hm : kk = true → zI M' (b + 2 + 2 + 5 * p) 7 = w32 (N' (22 + 23 * p + 6)) ∧ ∀ i : Nat, i < 8 → (i : Int) < N' (22 + 23 * p + 6) → zI M' (b + 2 + 2 + 5 * p + 3) i = w32 (mkt N' p i) ∧ zI M' (b + 2 + 2 + 5 * p + 4) i = w32 (mks N' p i)) : Rep kk M' b N' T L th pe po := by
  obtain ⟨⟨a0, a1, a2, a3, a4, a5⟩, hp, ht, hc, hL, hH, hn⟩ := R
  have sb : sameH M M' b := hx b (by omega) (by omega) (by omega)
  have sb1 : sameH M M' (b + 1) := hx (b + 1) (by omega) (by omega) (by omega)
  have sb3 : sameH M M' (b + 3) := hx (b + 3) (by omega) (by omega) (by omega)
  refine ⟨⟨?_, ?_, ?_, ?_, ?_, ?_⟩, fun x hx' => ?_, fun q p5 pq x hx' => ?_, fun q p5 pq x hx' hk => ?_, fun i hi x hx' => ?_, HP.same (fun i hi => (sb3 i).2.2) hH, hn⟩
  · rw [(sb 0).1]; exact a0
  · rw [(sb 1).1]; exact a1
  · rw [(sb 2).1]; exact a2
  · rw [(sb 3).1]; exact a3
  · rw [(sb 4).1, hN 0 (by omega)]; exact a4
  · rw [(sb 5).1, hN 1 (by omega)]; exact a5
  · rw [(sb1 x).1, hN _ (by omega)]; exact hp x hx'
  · by_cases e : q = p
    · subst e
      rw [hI x (by omega)]; exact ht q p5 pq x hx'
    · rw [(hx (b + 2 + 2 + 5 * q) (by omega) (by omega) (by omega) x).1]; exact ht q p5 pq x hx'
  · have hpx := pad_lt x
    by_cases e : q = p
    · subst e
      by_cases c6 : x < 6
      · rw [hN _ (by omega)]
        have h0 := hc q p5 pq x hx' (Or.inl c6)
        by_cases c2 : x < 2
        · have e1 : pad x = 0 := by unfold pad; rw [if_pos c2]
          have e2 : ppl x = 5 + x := by unfold ppl; rw [if_pos c2]
          rw [e1, e2] at h0 ⊢
          rw [Nat.add_zero] at h0 ⊢
          rw [hI _ (by omega)]
          exact h0
        · have e1 : pad x = 1 ∨ pad x = 2 := by
            unfold pad
            rw [if_neg c2]
            by_cases c4 : x < 4
            · rw [if_pos c4]; exact Or.inl rfl
            · rw [if_neg c4, if_pos c6]; exact Or.inr rfl
          rw [(hx (b + 2 + 2 + 5 * q + pad x) (by omega) (by omega) (by omega) _).1]
          exact h0
      · rcases hk with c | ⟨ck, c⟩
        · omega
        · obtain ⟨m1, m2⟩ := hm ck
          rcases c with c | c
          · subst c
            exact m1
          · by_cases c7 : x = 6
            · subst c7
              exact m1
            · have hi : (x - 7) / 2 < 8 := by omega
              obtain ⟨k1, k2⟩ := m2 _ hi c
              have q1 : ppl x = (x - 7) / 2 := by
                unfold ppl
                rw [if_neg (by omega), if_neg (by omega), if_neg c6, if_neg c7]
              have q2 : pad x = 3 + (x - 7) % 2 := by
                unfold pad
                rw [if_neg (by omega), if_neg (by omega), if_neg c6, if_neg c7]
              rw [q1, q2]
              rcases (show (x - 7) % 2 = 0 ∨ (x - 7) % 2 = 1 by omega) with d | d
              · rw [d]
                unfold mkt at k1
                rw [show 22 + 23 * q + x = 22 + 23 * q + (7 + 2 * ((x - 7) / 2)) by omega]
                exact k1
              · rw [d]
                unfold mks at k2
                rw [show 22 + 23 * q + x = 22 + 23 * q + (8 + 2 * ((x - 7) / 2)) by omega]
                exact k2
    · rw [hN _ (by omega), (hx (b + 2 + 2 + 5 * q + pad x) (by omega) (by omega) (by omega) _).1]
      rw [hN _ (by omega)] at hk
      exact hc q p5 pq x hx' hk
  · have r := hH.rng (i := i) (by omega)
    rw [(sb3 i).2.2, zS_same (hx _ (by omega) (by omega) (by omega)) (hx _ (by omega) (by omega) (by omega)) (hx _ (by omega) (by omega) (by omega))]; exact hL i hi x hx'
theorem zI_cp (M : MZ) (h0 sp h1 dp n a k : Nat) : zI (zcp M h0 sp h1 dp n) a k = if a = h1 then (if dp ≤ k ∧ k < dp + n then zI M h0 (sp + (k - dp)) else zI M h1 k) else zI M a k := by
  unfold zcp zI va_cpy
  rfl
/-- the last row of making a mark -/
theorem K_mark79 (hb : bOK b) {p : Nat} (hp : p < 5) (hq : (p : Int) < po) {t v : Int} (R : Rep true M b N T L th pe po) (hc : 0 ≤ N (22 + 23 * p + 6) ∧ N (22 + 23 * p + 6) ≤ 7) (ht : w32 t = t) (hv : w32 v = v) : ∃ M', g_X4_mark_79 (b + 2 + 2 + 5 * p) t v M = some ((), M') ∧ Rep true M' b (mkW N p t v) T L th pe po ∧ FrB b M M' := by
  have k7 := K_mm R hp hq
  rw [w32_id (by omega) (by omega)] at k7
  obtain ⟨c, ec⟩ := zR_nat hc.1
  have c7 : c ≤ 7 := by omega
  have hmt : ∀ i : Nat, i < c → zI M (b + 2 + 2 + 5 * p + 3) i = w32 (mkt N p i) := fun i hi => K_mt R hp hq (by omega) (by omega)
  have hms : ∀ i : Nat, i < c → zI M (b + 2 + 2 + 5 * p + 4) i = w32 (mks N p i) := fun i hi => K_ms R hp hq (by omega) (by omega)
  generalize eM : uI (uI (uI M (b + 2 + 2 + 5 * p + 3) c t) (b + 2 + 2 + 5 * p + 4) c v) (b + 2 + 2 + 5 * p) 7 ((c : Int) + 1) = M'
  refine ⟨M', ?_, ?_, ?_⟩
  · unfold g_X4_mark_79 g_X4_mark_116
    have q1 : zI (uI M (b + 2 + 2 + 5 * p + 3) c t) (b + 2 + 2 + 5 * p) 7 = c := by rw [zI_uI, if_neg (by omega), k7, ec]
    have q2 : zI (uI (uI M (b + 2 + 2 + 5 * p + 3) c t) (b + 2 + 2 + 5 * p + 4) c v) (b + 2 + 2 + 5 * p) 7 = c := by rw [zI_uI, if_neg (by omega)]; exact q1
    rw [k7, ec, if_pos (kdp hb hp), if_neg (by omega), if_pos (by omega), Int.toNat_natCast, q1, if_pos (by omega), Int.toNat_natCast, q2, w32_id (by omega) (by omega), eM]
  · have ew : mkW N p t v = ud (ud (ud N (22 + 23 * p + (7 + 2 * c)) t) (22 + 23 * p + (8 + 2 * c)) v) (22 + 23 * p + 6) ((c : Int) + 1) := by
      unfold mkW
      rw [ec, Int.toNat_natCast]
    rw [ew]
    refine R.marks (p := p) hp (fun x h1 h2 h3 => ?_) (fun k hk => ?_) (fun j hj => ?_) (fun _ => ⟨?_, fun i hi hc' => ⟨?_, ?_⟩⟩)
    · rw [← eM]; exact ((sameH_uI h2).trans (sameH_uI h3)).trans (sameH_uI h1)
    · rw [← eM, zI_uI, if_neg (by omega), zI_uI, if_neg (by omega), zI_uI, if_neg (by omega)]
    · rw [ud_ne (by omega), ud_ne (by omega), ud_ne (by omega)]
    · rw [← eM, ud_at, w32_id (by omega) (by omega)]; exact zI_at _ _ _ _
    · rw [ud_at] at hc'
      rw [← eM, zI_uI, if_neg (by omega), zI_uI, if_neg (by omega), zI_uI]
      unfold mkt
      by_cases e : i = c
      · subst e
        rw [if_pos ⟨rfl, rfl⟩, ud_ne (by omega), ud_ne (by omega), ud_at, ht]
      · rw [if_neg (by omega), ud_ne (by omega), ud_ne (by omega), ud_ne (by omega)]
        exact hmt i (by omega)
    · rw [ud_at] at hc'
      rw [← eM, zI_uI, if_neg (by omega), zI_uI]
      unfold mks
      by_cases e : i = c
      · subst e
        rw [if_pos ⟨rfl, rfl⟩, ud_ne (by omega), ud_at, hv]
      · rw [if_neg (by omega), zI_uI, if_neg (by omega), ud_ne (by omega), ud_ne (by omega), ud_ne (by omega)]
        exact hms i (by omega)
  · rw [← eM]
    exact ((FrB_uI (by omega)).trans (FrB_uI (by omega))).trans (FrB_uI (by omega))
theorem K_mark (hb : bOK b) (R : Rep true M b N T L th pe po) {p : Nat} (hp : p < 5) (hq : (p : Int) < po) (m : Mrk N p) (hz : 0 ≤ N (22 + 23 * p + 1) ∧ N (22 + 23 * p + 1) < 40) (hN : N 0 ≤ 9999999) : ∃ M', g_X4_mark (b + 2 + 2 + 5 * p) (N 0) M = some ((), M') ∧ Rep true M' b (mkN N p) T L th pe po ∧ FrB b M M' := by
  have k7 := K_mm R hp hq
  have hc := m.1
  rw [w32_id (by omega) (by omega)] at k7
  obtain ⟨c, ec⟩ := zR_nat (p := N (22 + 23 * p + 6) - 1) (by omega)
  have c7 : c ≤ 7 := by omega
  have h0 : mkt N p 0 ≤ N 0 := m.2.2.2 0 (by omega)
  have hb0 := m.bd 0 (by omega)
  have hb1 := m.bd c (by omega)
  have hle : mkt N p c ≤ N 0 := m.2.2.2 c (by omega)
  have kt : zI M (b + 2 + 2 + 5 * p + 3) c = mkt N p c := by
    rw [K_mt R hp hq (by omega) (by omega), w32_id (by omega) (by omega)]
  have ks := K_sumAt hb R hp hq m hz hN (t := N 0) hN h0
  have hs := sAt_r m hz hN h0
  have wt : w32 (N 0) = N 0 := w32_id (by omega) (by omega)
  have ws : w32 (sAt N p (N 0)) = sAt N p (N 0) := w32_id (by omega) (by omega)
  have e0 : g_X4_mark (b + 2 + 2 + 5 * p) (N 0) M = if mkt N p c = N 0 then some ((), M) else g_X4_mark_28 (b + 2 + 2 + 5 * p) (N 0) M := by
    unfold g_X4_mark g_X4_mark_7
    rw [if_pos (kdp hb hp), k7, ec, w32_id (by omega) (by omega), if_neg (by omega), if_neg (by omega), if_pos (kdp hb hp), if_pos (by omega), Int.toNat_natCast, kt]
  have eN : mkN N p = if mkt N p c = N 0 then N else mkW (mkC N p) p (N 0) (sAt N p (N 0)) := by
    unfold mkN
    rw [ec, Int.toNat_natCast]
  rw [e0, eN]
  by_cases cd : mkt N p c = N 0
  · rw [if_pos cd, if_pos cd]
    exact ⟨M, rfl, R, FrB.rfl⟩
  · rw [if_neg cd, if_neg cd]
    unfold g_X4_mark_28
    rw [if_pos (kdp hb hp), ks]
    simp only [bindS]
    rw [k7]
    by_cases c8 : N (22 + 23 * p + 6) < 8
    · rw [if_pos c8]
      have e1 : mkC N p = N := by unfold mkC; rw [if_neg (by omega)]
      rw [e1]
      exact K_mark79 hb hp hq R (by omega) wt ws
    · rw [if_neg c8]
      have e8 : N (22 + 23 * p + 6) = 8 := by omega
      have e1 : mkC N p = mkB N p := by unfold mkC; rw [if_pos e8]
      have b6 : mkB N p (22 + 23 * p + 6) = 7 := by unfold mkB; rw [if_neg (by omega), if_pos rfl]
      rw [e1]
      generalize eS : uI (zcp (zcp M (b + 2 + 2 + 5 * p + 3) 1 (b + 2 + 2 + 5 * p + 3) 0 7) (b + 2 + 2 + 5 * p + 4) 1 (b + 2 + 2 + 5 * p + 4) 0 7) (b + 2 + 2 + 5 * p) 7 7 = S
      have sS : ∀ x, x ≠ b + 2 + 2 + 5 * p → x ≠ b + 2 + 2 + 5 * p + 3 → x ≠ b + 2 + 2 + 5 * p + 4 → sameH M S x := fun x h1 h2 h3 k => by
        rw [← eS]
        refine ⟨?_, rfl, rfl⟩
        rw [zI_uI, if_neg (fun q => h1 q.1), zI_cp, if_neg h3, zI_cp, if_neg h2]
      have RS : Rep true S b (mkB N p) T L th pe po := by
        refine R.marks (p := p) hp sS (fun k hk => ?_) (fun j hj => ?_) (fun _ => ⟨?_, fun i hi hc' => ⟨?_, ?_⟩⟩)
        · rw [← eS, zI_uI, if_neg (by omega), zI_cp, if_neg (by omega), zI_cp, if_neg (by omega)]
        · unfold mkB
          rw [if_neg (by omega), if_neg (by omega)]
        · rw [← eS, b6, w32_id (by omega) (by omega)]; exact zI_at _ _ _ _
        · rw [b6] at hc'
          rw [← eS, zI_uI, if_neg (by omega), zI_cp, if_neg (by omega), zI_cp, if_pos rfl, if_pos (by omega), K_mt R hp hq (by omega) (by omega)]
          unfold mkt mkB
          rw [if_pos (by omega)]
          congr 2
          omega
        · rw [b6] at hc'
          rw [← eS, zI_uI, if_neg (by omega), zI_cp, if_pos rfl, if_pos (by omega), zI_cp, if_neg (by omega), K_ms R hp hq (by omega) (by omega)]
          unfold mks mkB
          rw [if_pos (by omega)]
          congr 2
          omega
      obtain ⟨M', a1, a2, a3⟩ := K_mark79 hb hp hq RS (by omega) wt ws
      exact ⟨M', a1, a2, fun x hx => (sS x (by omega) (by omega) (by omega)).trans (a3 x hx)⟩
end MK
