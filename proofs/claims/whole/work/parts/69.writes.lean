/-! a number written: what both memories say then -/
theorem FrB_uI {b : Nat} {M : MZ} {h k : Nat} {v : Int} (hh : b ≤ h ∧ h < b + 65) : FrB b M (uI M h k v) := fun x hx => sameH_uI (by omega)
theorem FrB_uL {b : Nat} {M : MZ} {h k : Nat} {v : Int} (hh : b ≤ h ∧ h < b + 65) : FrB b M (uL M h k v) := fun x hx => sameH_uL (by omega)
theorem FrB_uR {b : Nat} {M : MZ} {h k : Nat} {v : Nat} (hh : b ≤ h ∧ h < b + 65) : FrB b M (uR M h k v) := fun x hx => sameH_uR (by omega)
section WR
variable {M : MZ} {b : Nat} {kk : Bool} {N T : Nat → Int} {L : List (Nat → Int)} {th pe po : Int}
theorem RepR.cell (R : RepR M N T L th pe po) {j : Nat} (hj : j < 137) (v : Int) : RepR (uL M 23 j v) (ud N j v) T L th pe po := by
  obtain ⟨a, hT, hN, hn, hL, h12⟩ := R
  refine ⟨a, hT, fun i hi => ?_, ?_, fun i hi w hw => ?_, h12⟩
  · rw [zL_uL]
    by_cases e : i = j
    · subst e; rw [if_pos ⟨rfl, rfl⟩, ud_at]
    · rw [if_neg (fun q => e q.2), ud_ne e]; exact hN i hi
  · rw [zL_uL, if_neg (by omega)]; exact hn
  · rw [zL_uL, if_neg (by omega)]; exact hL i hi w hw
theorem getD_set {i j : Nat} {x : Nat → Int} (hi : i < L.length) : (L.set i x).getD j d0 = if j = i then x else L.getD j d0 := by
  rw [List.getD_eq_getElem?_getD, List.getElem?_set, List.getD_eq_getElem?_getD]
  by_cases e : i = j
  · subst e
    rw [if_pos rfl, if_pos hi, if_pos rfl]
    rfl
  · rw [if_neg e, if_neg (fun q => e q.symm)]
theorem RepR.stake (R : RepR M N T L th pe po) {i w : Nat} (hi : i < L.length) (hw : w < 10) (v : Int) : RepR (uL M 23 (138 + 10 * i + w) v) N T (L.set i (ud (L.getD i d0) w v)) th pe po := by
  obtain ⟨a, hT, hN, hn, hL, h12⟩ := R
  refine ⟨a, hT, fun j hj => ?_, ?_, fun j hj x hx => ?_, by rw [List.length_set]; exact h12⟩
  · rw [zL_uL, if_neg (by omega)]; exact hN j hj
  · rw [zL_uL, if_neg (by omega), List.length_set]; exact hn
  · rw [List.length_set] at hj
    rw [zL_uL, getD_set hi]
    by_cases e : j = i
    · subst e
      rw [if_pos rfl]
      by_cases e2 : x = w
      · subst e2; rw [if_pos ⟨rfl, rfl⟩, ud_at]
      · rw [if_neg (by omega), ud_ne e2]; exact hL j hj x hx
    · rw [if_neg (by omega), if_neg e]; exact hL j hj x hx
theorem Rep.time (R : Rep kk M b N T L th pe po) (v : Int) : Rep kk (uI M b 4 v) b (ud N 0 v) T L th pe po := by
  obtain ⟨⟨a0, a1, a2, a3, a4, a5⟩, hp, ht, hc, hL, hH, hn⟩ := R
  refine ⟨⟨?_, ?_, ?_, ?_, ?_, ?_⟩, fun j hj => ?_, fun p p5 pq j hj => ?_, fun p p5 pq w hw hk => ?_, fun i hi w hw => ?_, HP.same (fun i hi => rfl) hH, hn⟩
  · rw [zI_uI, if_neg (by omega)]; exact a0
  · rw [zI_uI, if_neg (by omega)]; exact a1
  · rw [zI_uI, if_neg (by omega)]; exact a2
  · rw [zI_uI, if_neg (by omega)]; exact a3
  · rw [zI_uI, if_pos ⟨rfl, rfl⟩, ud_at]
  · rw [zI_uI, if_neg (by omega), ud_ne (by omega)]; exact a5
  · rw [zI_uI, if_neg (by omega), ud_ne (by omega)]; exact hp j hj
  · rw [zI_uI, if_neg (by omega)]; exact ht p p5 pq j hj
  · rw [ud_ne (by omega)] at hk
    rw [zI_uI, if_neg (by omega), ud_ne (by omega)]; exact hc p p5 pq w hw hk
  · have r := hH.rng (i := i) (by omega)
    rw [zR_uI, zS_same (sameH_uI (by omega)) (sameH_uI (by omega)) (sameH_uI (by omega))]; exact hL i hi w hw
theorem Rep.crossed (R : Rep kk M b N T L th pe po) {v v' : Int} (hv : v' = w32 v) : Rep kk (uI M b 5 v') b (ud N 1 v) T L th pe po := by
  subst hv
  obtain ⟨⟨a0, a1, a2, a3, a4, a5⟩, hp, ht, hc, hL, hH, hn⟩ := R
  refine ⟨⟨?_, ?_, ?_, ?_, ?_, ?_⟩, fun j hj => ?_, fun p p5 pq j hj => ?_, fun p p5 pq w hw hk => ?_, fun i hi w hw => ?_, HP.same (fun i hi => rfl) hH, hn⟩
  · rw [zI_uI, if_neg (by omega)]; exact a0
  · rw [zI_uI, if_neg (by omega)]; exact a1
  · rw [zI_uI, if_neg (by omega)]; exact a2
  · rw [zI_uI, if_neg (by omega)]; exact a3
  · rw [zI_uI, if_neg (by omega), ud_ne (by omega)]; exact a4
  · rw [zI_uI, if_pos ⟨rfl, rfl⟩, ud_at]
  · rw [zI_uI, if_neg (by omega), ud_ne (by omega)]; exact hp j hj
  · rw [zI_uI, if_neg (by omega)]; exact ht p p5 pq j hj
  · rw [ud_ne (by omega)] at hk
    rw [zI_uI, if_neg (by omega), ud_ne (by omega)]; exact hc p p5 pq w hw hk
  · have r := hH.rng (i := i) (by omega)
    rw [zR_uI, zS_same (sameH_uI (by omega)) (sameH_uI (by omega)) (sameH_uI (by omega))]; exact hL i hi w hw
theorem Rep.purse (R : Rep kk M b N T L th pe po) {j : Nat} (hj : j < 20) {v v' : Int} (hv : v' = w32 v) : Rep kk (uI M (b + 1) j v') b (ud N (2 + j) v) T L th pe po := by
  subst hv
  obtain ⟨⟨a0, a1, a2, a3, a4, a5⟩, hp, ht, hc, hL, hH, hn⟩ := R
  refine ⟨⟨?_, ?_, ?_, ?_, ?_, ?_⟩, fun x hx => ?_, fun p p5 pq x hx => ?_, fun p p5 pq w hw hk => ?_, fun i hi w hw => ?_, HP.same (fun i hi => rfl) hH, hn⟩
  · rw [zI_uI, if_neg (by omega)]; exact a0
  · rw [zI_uI, if_neg (by omega)]; exact a1
  · rw [zI_uI, if_neg (by omega)]; exact a2
  · rw [zI_uI, if_neg (by omega)]; exact a3
  · rw [zI_uI, if_neg (by omega), ud_ne (by omega)]; exact a4
  · rw [zI_uI, if_neg (by omega), ud_ne (by omega)]; exact a5
  · rw [zI_uI]
    by_cases e : x = j
    · subst e; rw [if_pos ⟨rfl, rfl⟩, ud_at]
    · rw [if_neg (by omega), ud_ne (by omega)]; exact hp x hx
  · rw [zI_uI, if_neg (by omega)]; exact ht p p5 pq x hx
  · rw [ud_ne (by omega)] at hk
    rw [zI_uI, if_neg (by omega), ud_ne (by omega)]; exact hc p p5 pq w hw hk
  · have r := hH.rng (i := i) (by omega)
    rw [zR_uI, zS_same (sameH_uI (by omega)) (sameH_uI (by omega)) (sameH_uI (by omega))]; exact hL i hi w hw
theorem Rep.pool (R : Rep kk M b N T L th pe po) {p w : Nat} (hp5 : p < 5) (hw6 : w < 6) {v v' : Int} (hv : v' = w32 v) : Rep kk (uI M (b + 2 + 2 + 5 * p + pad w) (ppl w) v') b (ud N (22 + 23 * p + w) v) T L th pe po := by
  subst hv
  obtain ⟨⟨a0, a1, a2, a3, a4, a5⟩, hp, ht, hc, hL, hH, hn⟩ := R
  have hpd := pad_lt w
  refine ⟨⟨?_, ?_, ?_, ?_, ?_, ?_⟩, fun x hx => ?_, fun q p5 pq x hx => ?_, fun q p5 pq x hx hk => ?_, fun i hi x hx => ?_, HP.same (fun i hi => rfl) hH, hn⟩
  · rw [zI_uI, if_neg (by omega)]; exact a0
  · rw [zI_uI, if_neg (by omega)]; exact a1
  · rw [zI_uI, if_neg (by omega)]; exact a2
  · rw [zI_uI, if_neg (by omega)]; exact a3
  · rw [zI_uI, if_neg (by omega), ud_ne (by omega)]; exact a4
  · rw [zI_uI, if_neg (by omega), ud_ne (by omega)]; exact a5
  · rw [zI_uI, if_neg (by omega), ud_ne (by omega)]; exact hp x hx
  · rw [zI_uI, if_neg (fun e => pad_told (w := w) (j := x) (by omega) hx e.2.symm)]; exact ht q p5 pq x hx
  · rw [ud_ne (by omega)] at hk
    have hpx := pad_lt x
    rw [zI_uI]
    by_cases e : q = p ∧ x = w
    · obtain ⟨rfl, rfl⟩ := e
      rw [if_pos ⟨rfl, rfl⟩, ud_at]
    · rw [if_neg (fun z => e ⟨by omega, pad_inj (by omega) z.2⟩), ud_ne (by omega)]; exact hc q p5 pq x hx hk
  · have r := hH.rng (i := i) (by omega)
    rw [zR_uI, zS_same (sameH_uI (by omega)) (sameH_uI (by omega)) (sameH_uI (by omega))]; exact hL i hi x hx
theorem pad_0 : pad 0 = 0 := rfl
/-- a stake's number, as the objects have it -/
def uS (M : MZ) (h w : Nat) (v : Int) : MZ := if w < 6 then uI M h w v else if w < 8 then uL M (h + 1) (w - 6) v else uL M (h + 2) (w - 8) v
theorem zR_uS (M : MZ) (h w : Nat) (v : Int) (a k : Nat) : zR (uS M h w v) a k = zR M a k := by
  unfold uS
  repeat' split
  all_goals rfl
theorem sameH_uS {M : MZ} {h w x : Nat} {v : Int} (hx : x < h ∨ h + 2 < x) : sameH M (uS M h w v) x := by
  unfold uS
  repeat' split
  · exact sameH_uI (by omega)
  · exact sameH_uL (by omega)
  · exact sameH_uL (by omega)
theorem zS_uS {M : MZ} {h w x : Nat} {v : Int} (hw : w < 10) (hx : x < 10) : zS (uS M h w v) h x = if x = w then v else zS M h x := by
  unfold uS zS
  by_cases w6 : w < 6
  · rw [if_pos w6]
    by_cases x6 : x < 6
    · rw [if_pos x6, if_pos x6, zI_uI]
      by_cases e : x = w
      · rw [if_pos ⟨rfl, e⟩, if_pos e]
      · rw [if_neg (fun q => e q.2), if_neg e]
    · rw [if_neg x6, if_neg x6, if_neg (show ¬ x = w by omega)]
      rfl
  · rw [if_neg w6]
    by_cases w8 : w < 8
    · rw [if_pos w8]
      by_cases x6 : x < 6
      · rw [if_pos x6, if_pos x6, if_neg (show ¬ x = w by omega)]; rfl
      · rw [if_neg x6, if_neg x6]
        by_cases x8 : x < 8
        · rw [if_pos x8, if_pos x8, zL_uL]
          by_cases e : x = w
          · rw [if_pos ⟨rfl, by omega⟩, if_pos e]
          · rw [if_neg (by omega), if_neg e]
        · rw [if_neg x8, if_neg x8, zL_uL, if_neg (by omega), if_neg (by omega)]
    · rw [if_neg w8]
      by_cases x6 : x < 6
      · rw [if_pos x6, if_pos x6, if_neg (show ¬ x = w by omega)]; rfl
      · rw [if_neg x6, if_neg x6]
        by_cases x8 : x < 8
        · rw [if_pos x8, if_pos x8, zL_uL, if_neg (by omega), if_neg (by omega)]
        · rw [if_neg x8, if_neg x8, zL_uL]
          by_cases e : x = w
          · rw [if_pos ⟨rfl, by omega⟩, if_pos e]
          · rw [if_neg (by omega), if_neg e]
theorem Rep.stake (R : Rep kk M b N T L th pe po) {i w : Nat} (hi : i < L.length) (hw : w < 10) (v : Int) : Rep kk (uS M (zR M (b + 3) i) w v) b N T (L.set i (ud (L.getD i d0) w v)) th pe po := by
  obtain ⟨⟨a0, a1, a2, a3, a4, a5⟩, hp, ht, hc, hL, hH, hn⟩ := R
  have r := hH.rng (i := i) (by omega)
  have s := fun x (hx : x < b + 29) => sameH_uS (M := M) (h := zR M (b + 3) i) (w := w) (v := v) (x := x) (Or.inl (by omega))
  refine ⟨⟨?_, ?_, ?_, ?_, ?_, ?_⟩, fun x hx => ?_, fun q p5 pq x hx => ?_, fun q p5 pq x hx hk => ?_, fun j hj x hx => ?_, HP.same (fun j _ => zR_uS _ _ _ _ _ _) hH, by rw [List.length_set]; exact hn⟩
  · rw [(s b (by omega) _).1]; exact a0
  · rw [(s b (by omega) _).1]; exact a1
  · rw [(s b (by omega) _).1]; exact a2
  · rw [(s b (by omega) _).1, List.length_set]; exact a3
  · rw [(s b (by omega) _).1]; exact a4
  · rw [(s b (by omega) _).1]; exact a5
  · rw [(s (b + 1) (by omega) _).1]; exact hp x hx
  · rw [(s (b + 2 + 2 + 5 * q) (by omega) _).1]; exact ht q p5 pq x hx
  · have := pad_lt x
    rw [(s (b + 2 + 2 + 5 * q + pad x) (by omega) _).1]; exact hc q p5 pq x hx hk
  · rw [List.length_set] at hj
    rw [zR_uS, getD_set hi]
    by_cases e : j = i
    · subst e
      rw [if_pos rfl, zS_uS hw hx]
      unfold ud
      by_cases e2 : x = w
      · rw [if_pos e2, if_pos e2]
      · rw [if_neg e2, if_neg e2]; exact hL j hj x hx
    · rw [if_neg e]
      have a := hH.apart (i := j) (j := i) (by omega) (by omega) e
      rw [zS_same (sameH_uS (by omega)) (sameH_uS (by omega)) (sameH_uS (by omega))]
      exact hL j hj x hx
end WR
theorem q_passes {M : MZ} (h : IV M) (n : Int) (hn : -2147483648 ≤ n ∧ n ≤ 2147483647) : ∃ r M1 M2, g_X11_passes n M = some (r, M1) ∧ g_X12_passes n M1 = some (r, M2) ∧ IV M2 := by
  have h0 := h
  obtain ⟨N, T, L, th, pe, po, R, RR, W, hM, hk, ht, hH, K, hA⟩ := h
  unfold g_X11_passes g_X11_passes_37 g_X12_passes g_X12_passes_35
  simp only [R_isIn, bindS, bI_0]
  rw [R.1.1, R.1.2.2.2.2.1]
  by_cases c0 : th = 0
  · refine ⟨-1, M, M, by rw [if_pos c0], ?_, h0⟩
    rw [RR.1.1, if_pos c0]
  · rw [if_neg c0]
    by_cases c : (1 ≤ n ∧ n ≤ 9999) ∧ N 0 + n ≤ 9999999
    · have e1 : w32 (N 0 + n) = N 0 + n := w32_id (by omega) (by omega)
      have e2 : w64 (N 0 + n) = N 0 + n := w64_id (by omega) (by omega)
      refine ⟨N 0 + n, uI M 78 4 (N 0 + n), uL (uI M 78 4 (N 0 + n)) 23 0 (N 0 + n), ?_, ?_, ?_⟩
      · rw [if_neg (by omega), if_neg (by omega), e1, if_pos c.2, zI_uI, if_pos ⟨rfl, rfl⟩]
      · rw [show zI (uI M 78 4 (N 0 + n)) 20 1 = th by rw [zI_uI, if_neg (by decide)]; exact RR.1.1, if_neg c0, if_neg (fun q => q c.1), zL_uI, RR.2.2.1 0 (by omega), e2, if_pos c.2, zL_uL, if_pos ⟨rfl, rfl⟩, e1]
      · refine ⟨ud N 0 (N 0 + n), T, L, th, pe, po, ?_, ?_, ⟨W.1, fun p hp hq => ⟨(W.2.1 p hp hq).1, ?_⟩, W.2.2⟩, ?_, fun p hp hq => ?_, ?_, ?_, ?_, ?_⟩
        · exact (R.time _).same (fun x h1 h2 => sameH_uL (by omega))
        · exact (RR.same (M' := uI M 78 4 (N 0 + n)) (fun x h1 h2 => sameH_uI (by omega))).cell (by omega) _
        · have := (W.2.1 p hp hq).2
          unfold Rz at *
          rw [ud_ne (by omega), ud_ne (by omega)]
          exact this
        · obtain ⟨m1, m2, m3, m4⟩ := hM
          refine ⟨fun j hj => by rw [ud_ne (by omega)]; exact m1 j hj, fun p k hp hq hk => ?_, fun t ht => ?_, m4⟩
          · have := m2 p k hp hq hk
            unfold SolvD at *
            rw [ud_ne (by omega), ud_ne (by omega), ud_ne (by omega), ud_ne (by omega)]
            exact this
          · have := m3 t ht
            unfold tot totP at *
            simp only [ud_ne (N := N) (j := 0) (v := N 0 + n) (show 2 + t ≠ 0 by omega), ud_ne (N := N) (j := 0) (v := N 0 + n) (show 2 + (5 + t) ≠ 0 by omega), ud_ne (N := N) (j := 0) (v := N 0 + n) (show 2 + (10 + t) ≠ 0 by omega), ud_ne (N := N) (j := 0) (v := N 0 + n) (show 2 + (15 + t) ≠ 0 by omega)]
            exact this
        · have := hk p hp hq
          obtain ⟨n1, n2, n3, n4⟩ := this
          refine ⟨by rw [ud_ne (by omega)]; exact n1, by rw [ud_ne (by omega), ud_ne (by omega)]; exact n2, fun i hi => ?_, fun i hi => ?_⟩
          · rw [ud_ne (by omega)] at hi
            rw [ud_ne (by omega), ud_ne (by omega), ud_ne (by omega), ud_ne (by omega)]
            exact n3 i hi
          · rw [ud_ne (by omega)] at hi
            rw [ud_ne (by omega), ud_at]
            have := n4 i hi
            omega
        · rw [ud_at]; omega
        · exact hH
        · exact K
        · exact hA
    · refine ⟨-1, M, M, ?_, ?_, h0⟩
      · split
        · rfl
        · split
          · rfl
          · rw [w32_id (by omega) (by omega), if_neg (by omega)]
      · rw [RR.1.1, if_neg c0, RR.2.2.1 0 (by omega)]
        split
        · rfl
        · rw [w64_id (by omega) (by omega), if_neg (by omega)]
theorem ok_passes (a : Int32) : SO INV (f_X11_passes a) (f_X12_passes a) := SO_of (IV := IV) (fun _ => l_X11_passes rfl rfl) (fun _ => l_X12_passes rfl rfl) (fun _ h => q_passes h _ (tI_r a))
