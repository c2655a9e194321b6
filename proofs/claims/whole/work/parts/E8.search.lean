/-! the class's search, level by level -/
def cst : Nat → Nat → Nat
  | 0, _ => 0
  | k + 1, x => x * (1 + cst k 5) + 1
theorem cst_s (k x : Nat) : cst (k + 1) (x + 1) = cst (k + 1) x + (1 + cst k 5) := by
  show (x + 1) * (1 + cst k 5) + 1 = x * (1 + cst k 5) + 1 + (1 + cst k 5)
  rw [Nat.add_mul, Nat.one_mul]; omega
theorem cst_1 (k x : Nat) : 1 ≤ cst (k + 1) x := by
  show 1 ≤ x * (1 + cst k 5) + 1
  omega
section SE
variable {b : Nat} {kk : Bool} {N T : Nat → Int} {L : List (Nat → Int)} {th pe po fr to a0 : Int}
theorem sub0 {c d k n : Nat} {t a : Int} {met thr : Nat} (hP : PVd N T L po fr to a0 c d t a met thr) (hc : pc c d) (hk : d + (k + 1) = 3) (hn : n < 5) (ha : 0 < a) (hg : ¬ (gdd T po thr n t ∧ ¬ (met / 2 ^ (otP T n (sdP T n t)).toNat % 2 = 1) ∧ otP T n (sdP T n t) ≠ to) ∨ hpP N T L n (sdP T n t) a ≤ 0) : ∀ r ∈ dfs k (6 * c + n + 1) 0, Vr N T L po fr to a0 r ≤ 0 := by
  intro r hr
  cases k with
  | zero => exact absurd hr (by unfold dfs; exact List.not_mem_nil)
  | succ k =>
    obtain ⟨m, m1, m2, m3⟩ := dfs_mem (pc_step hc (by omega) hn) (by omega) (by omega) r hr
    exact PV_n hP hn ha m1 m2 m3 hg
theorem dfs_po {c d k n : Nat} {t a : Int} {met thr : Nat} (hP : PVd N T L po fr to a0 c d t a met thr) (hc : pc c d) (hk : d + (k + 1) = 3) (ha : 0 < a) (hp : po ≤ (n : Int)) : ∀ r ∈ dfs (k + 1) c n, Vr N T L po fr to a0 r ≤ 0 := by
  intro r hr
  rw [dfs, List.mem_flatMap] at hr
  obtain ⟨i, h1, h2⟩ := hr
  rw [List.mem_range'_1] at h1
  have ng : ¬ gdd T po thr i t := fun q => by have := q.1; omega
  rcases List.mem_cons.1 h2 with e | h2
  · rw [e, (PV_V hP hc (by omega) ha).2 (fun q => ng q.1)]; omega
  · exact sub0 hP hc hk (by omega) ha (Or.inl (fun q => ng q.1)) r h2
theorem fold_1 {V : Nat → Int} {r : Nat} {l : List Nat} {s : BT} (h : V r ≤ 0) (hl : ∀ x ∈ l, V x ≤ 0) : (r :: l).foldl (stp a0 V) s = s := fold_0 _ _ (fun x hx => by
  rcases List.mem_cons.1 hx with e | e
  · rw [e]; exact h
  · exact hl x e)
theorem K_lev (hb : bOK b) (W : WF N T L th pe po) (h12 : L.length ≤ 12) (hto : 0 ≤ to) (ha0 : 0 < a0 ∧ a0 ≤ 9999999) : ∀ (k x n f i d c : Nat) (t a : Int) (met thr : Nat) (M : MZ) (s : BT), d + k = 3 → 1 ≤ k → n + x = 5 → Rep kk M b N T L th pe po → DS M d c t a met thr → PVd N T L po fr to a0 c d t a met thr → BS M s → zI M 19 d = (n : Int) → cst k x ≤ f → i + cst k x ≤ 100000 → ∃ (y : Nat) (M' : MZ), y ≤ cst k x ∧ g_X1_search_29 f b to a0 d i M = g_X1_search_29 (f - y) b to a0 ((d : Int) + -1) ((i + y : Nat) : Int) M' ∧ BS M' ((dfs k c n).foldl (stp a0 (Vr N T L po fr to a0)) s) ∧ FrD d M M' := by
  intro k
  induction k with
  | zero => intro x n f i d c t a met thr M s hk h1; omega
  | succ k ihk =>
    intro x
    induction x with
    | zero =>
      intro n f i d c t a met thr M s hk hk1 hx R hD hP hB h19 hf hi
      have hpo := W.1.r
      have hc1 := cst_1 k 0
      have hd3 : d < 3 := by omega
      obtain ⟨f, rfl⟩ : ∃ g, f = g + 1 := ⟨f - 1, by omega⟩
      have e : g_X1_search_29 (f + 1) b to a0 d i M = g_X1_search_29B (g_X1_search_29 f) b to a0 d i M := rfl
      have hbb : b = 78 ∨ b = 143 := hb
      refine ⟨1, uI M 19 d (w32 ((n : Int) + 1)), hc1, ?_, ?_, ?_⟩
      · rw [e]
        unfold g_X1_search_29B g_X1_search_56
        rw [if_neg (show ¬ (100000 : Int) ≤ i by omega), if_neg (show ¬ (d : Int) < 0 by omega), if_neg (show ¬ (3 : Int) ≤ d by omega), if_pos (show (0 : Int) ≤ d ∧ (d : Int) < ((3 : Nat) : Int) by omega), if_pos (show (0 : Int) ≤ d ∧ (d : Int) < ((3 : Nat) : Int) by omega), if_pos (show (0 : Int) ≤ d ∧ (d : Int) < ((3 : Nat) : Int) by omega), if_pos (kdb hb), Int.toNat_natCast, h19, zI_uI, if_neg (show ¬ (b = 19 ∧ 2 = d) by omega), R.1.2.2.1, if_neg (by omega)]
        unfold g_X1_search_227
        rw [w32_id (x := (d : Int) + -1) (by omega) (by omega), w32_id (x := (i : Int) + 1) (by omega) (by omega)]
        rfl
      · rw [fold_0 _ _ (dfs_po hP hD.1 hk hD.2.2.2.2.2.2.2.1 (by omega))]
        exact hB
      · exact ⟨fun y h1 h2 => sameH_uI (by omega), fun j hj => by rw [zI_uI, if_neg (by omega)], fun j hj => ⟨by rw [zI_uI, if_neg (by omega)], rfl⟩, fun j hj => by rw [zI_uI, if_neg (by omega)]⟩
    | succ x ihx =>
      intro n f i d c t a met thr M s hk hk1 hx R hD hP hB h19 hf hi
      have hpo := W.1.r
      rw [cst_s] at hf hi
      have hc1 := cst_1 k x
      have hd3 : d < 3 := by omega
      obtain ⟨f, rfl⟩ : ∃ g, f = g + 1 := ⟨f - 1, by omega⟩
      have e : g_X1_search_29 (f + 1) b to a0 d i M = g_X1_search_29B (g_X1_search_29 f) b to a0 d i M := rfl
      have hbb : b = 78 ∨ b = 143 := hb
      generalize eV : Vr N T L po fr to a0 = V at *
      by_cases hq : (n : Int) < po
      case neg =>
        refine ⟨1, uI M 19 d (w32 ((n : Int) + 1)), by rw [cst_s]; omega, ?_, ?_, ?_⟩
        · rw [e]
          unfold g_X1_search_29B g_X1_search_56
          rw [if_neg (show ¬ (100000 : Int) ≤ i by omega), if_neg (show ¬ (d : Int) < 0 by omega), if_neg (show ¬ (3 : Int) ≤ d by omega), if_pos (show (0 : Int) ≤ d ∧ (d : Int) < ((3 : Nat) : Int) by omega), if_pos (show (0 : Int) ≤ d ∧ (d : Int) < ((3 : Nat) : Int) by omega), if_pos (show (0 : Int) ≤ d ∧ (d : Int) < ((3 : Nat) : Int) by omega), if_pos (kdb hb), Int.toNat_natCast, h19, zI_uI, if_neg (show ¬ (b = 19 ∧ 2 = d) by omega), R.1.2.2.1, if_neg (by omega)]
          unfold g_X1_search_227
          rw [w32_id (x := (d : Int) + -1) (by omega) (by omega), w32_id (x := (i : Int) + 1) (by omega) (by omega)]
          rfl
        · rw [fold_0 _ _ (by rw [← eV]; exact dfs_po hP hD.1 hk hD.2.2.2.2.2.2.2.1 (by omega))]
          exact hB
        · exact ⟨fun y h1 h2 => sameH_uI (by omega), fun j hj => by rw [zI_uI, if_neg (by omega)], fun j hj => ⟨by rw [zI_uI, if_neg (by omega)], rfl⟩, fun j hj => by rw [zI_uI, if_neg (by omega)]⟩
      case pos =>
        have hn : n < 5 := by omega
        -- behind this pool
        have cont : ∀ (y0 : Nat) (M2 : MZ), y0 ≤ cst k 5 → FrD d M M2 → zI M2 19 d = ((n + 1 : Nat) : Int) → BS M2 (((6 * c + n + 1) :: dfs k (6 * c + n + 1) 0).foldl (stp a0 V) s) → g_X1_search_29 (f + 1) b to a0 d i M = g_X1_search_29 (f - y0) b to a0 d ((i + 1 + y0 : Nat) : Int) M2 → ∃ (y : Nat) (M' : MZ), y ≤ cst (k + 1) (x + 1) ∧ g_X1_search_29 (f + 1) b to a0 d i M = g_X1_search_29 (f + 1 - y) b to a0 ((d : Int) + -1) ((i + y : Nat) : Int) M' ∧ BS M' ((dfs (k + 1) c n).foldl (stp a0 V) s) ∧ FrD d M M' := by
          intro y0 M2 hy F h2 hB2 eq
          have R2 : Rep kk M2 b N T L th pe po := R.same (fun h h1 h2 => F.1 h (by omega) (by omega))
          obtain ⟨y1, M3, g1, g2, g3, g4⟩ := ihx (n + 1) (f - y0) (i + 1 + y0) d c t a met thr M2 _ hk hk1 (by omega) R2 (hD.mv F) hP hB2 h2 (by omega) (by omega)
          refine ⟨1 + y0 + y1, M3, by rw [cst_s]; omega, ?_, ?_, F.trans g4⟩
          · rw [eq, g2, show f - y0 - y1 = f + 1 - (1 + y0 + y1) by omega, show i + 1 + y0 + y1 = i + (1 + y0 + y1) by omega]
          · rw [dfs_step k c hn, List.foldl_append]
            exact g3
        have F1 : FrD d M (uI M 19 d ((n + 1 : Nat) : Int)) := ⟨fun y h1 h2 => sameH_uI (by omega), fun j hj => by rw [zI_uI, if_neg (by omega)], fun j hj => ⟨by rw [zI_uI, if_neg (by omega)], rfl⟩, fun j hj => by rw [zI_uI, if_neg (by omega)]⟩
        have B1 : BS (uI M 19 d ((n + 1 : Nat) : Int)) s := hB
        have h19' : zI (uI M 19 d ((n + 1 : Nat) : Int)) 19 d = ((n + 1 : Nat) : Int) := zI_at _ _ _ _
        have e2 : g_X1_search_29 (f + 1) b to a0 d i M = ((g_X1_otherThing b d n (uI M 19 d ((n + 1 : Nat) : Int))).bind fun q88 => (if q88.1 = to then (g_X1_search_104 (g_X1_search_29 f) b to a0 d i n q88.1 1 q88.2) else (g_X1_search_104 (g_X1_search_29 f) b to a0 d i n q88.1 0 q88.2))) := by
          rw [e]
          unfold g_X1_search_29B g_X1_search_56
          rw [if_neg (show ¬ (100000 : Int) ≤ i by omega), if_neg (show ¬ (d : Int) < 0 by omega), if_neg (show ¬ (3 : Int) ≤ d by omega), if_pos (show (0 : Int) ≤ d ∧ (d : Int) < ((3 : Nat) : Int) by omega), if_pos (show (0 : Int) ≤ d ∧ (d : Int) < ((3 : Nat) : Int) by omega), if_pos (show (0 : Int) ≤ d ∧ (d : Int) < ((3 : Nat) : Int) by omega), if_pos (kdb hb), Int.toNat_natCast, h19, w32_id (x := (n : Int) + 1) (by omega) (by omega), zI_uI, if_neg (show ¬ (b = 19 ∧ 2 = d) by omega), R.1.2.2.1, if_pos hq]
          rfl
        generalize eM1 : uI M 19 d ((n + 1 : Nat) : Int) = M1 at *
        have R1 : Rep kk M1 b N T L th pe po := R.same (fun h h1 h2 => F1.1 h (by omega) (by omega))
        have hD1 := hD.mv F1
        obtain ⟨d1, d2, d3, d4, d5, d6, d7, d8⟩ := hD1
        have skip : g_X1_search_227 (g_X1_search_29 f) b to a0 d i M1 = g_X1_search_29 (f - 0) b to a0 d ((i + 1 + 0 : Nat) : Int) M1 := by
          unfold g_X1_search_227
          rw [w32_id (x := (i : Int) + 1) (by omega) (by omega)]
          rfl
        have hV1 := PV_V (n := n) hP hD.1 hn d8.1
        have hVs := sub0 (n := n) hP hD.1 hk hn d8.1
        rw [eV] at hV1 hVs
        -- no way on by this pool
        by_cases hg : gdd T po thr n t
        case neg =>
          have e3 : g_X1_otherThing b d n M1 = some (-1, M1) := by
            unfold g_X1_otherThing
            by_cases cr : ∃ j, 0 ≤ j ∧ j < d ∧ zI M1 16 j = (n : Int)
            · exact K_oth_y hd3 d 0 100000 (by omega) (by omega) cr
            · have e4 := K_oth_n (b := b) (M := M1) (n := n) hd3 d 0 100000 (by omega) (by omega) (fun j h1 h2 h3 => cr ⟨j, h1, h2, h3⟩)
              rw [show ((0 : Nat) : Int) = 0 from rfl] at e4
              rw [e4, K_oth_38 hb R1 hd3 hn hq d3, if_neg]
              intro q
              exact hg ⟨hq, fun w => by obtain ⟨j, w1, w2⟩ := (d7 n hn).1 w; exact cr ⟨j, by omega, w1, w2⟩, q⟩
          rw [e3] at e2
          simp only [bindS] at e2
          have e5 : ∀ s0, g_X1_search_104 (g_X1_search_29 f) b to a0 d i n (-1) s0 M1 = g_X1_search_227 (g_X1_search_29 f) b to a0 d i M1 := by
            intro s0
            unfold g_X1_search_104 g_X1_search_129 g_X1_search_130
            by_cases c3 : (3 : Int) ≤ w32 ((d : Int) + 1)
            · rw [if_pos c3, if_pos rfl]
            · rw [if_neg c3]
              unfold g_X1_wasAt
              by_cases cw : ∃ j, 0 ≤ j ∧ j ≤ d ∧ zI M1 17 j = (-1 : Int)
              · have e6 := K_was_y (M := M1) (o := -1) hd3 (d + 1) 0 100000 (by omega) (by omega) cw
                rw [show ((0 : Nat) : Int) = 0 from rfl] at e6
                rw [e6]
                simp only [bindS]
                rw [if_neg (by omega), if_pos trivial]
              · have e6 := K_was_n (M := M1) (o := -1) hd3 (d + 1) 0 100000 (by omega) (by omega) (fun j h1 h2 h3 => cw ⟨j, h1, h2, h3⟩)
                rw [show ((0 : Nat) : Int) = 0 from rfl] at e6
                rw [e6]
                simp only [bindS]
                rw [if_pos trivial, if_pos trivial]
          rw [e5, e5, if_neg (show ¬ (-1 : Int) = to by omega), skip] at e2
          refine cont 0 M1 (by omega) F1 h19' ?_ e2
          rw [fold_1 (by rw [hV1.2 (fun q => hg q.1)]; omega) (hVs (Or.inl (fun q => hg q.1)))]
          exact B1
        case pos =>
          have hs0 := hg.2.2
          have e3 : g_X1_otherThing b d n M1 = some (otP T n (sdP T n t), M1) := by
            unfold g_X1_otherThing
            have e4 := K_oth_n (b := b) (M := M1) (n := n) hd3 d 0 100000 (by omega) (by omega) (fun j h1 h2 h3 => hg.2.1 ((d7 n hn).2 ⟨j, h2, h3⟩))
            rw [show ((0 : Nat) : Int) = 0 from rfl] at e4
            rw [e4, K_oth_38 hb R1 hd3 hn hq d3, if_pos hs0]
          rw [e3] at e2
          simp only [bindS] at e2
          have ho := otP_r W hn hq (sdP T n t)
          obtain ⟨M2, t1, t2, t3, t4⟩ := K_trial hb R1 W hd3 hn hq d3 d4 d8 hs0
          have hh := hpP_r W h12 hn hq (s := sdP T n t) (a := a) (by have := sdP_r T n t; omega) d8
          obtain ⟨o, eo⟩ : ∃ o : Nat, otP T n (sdP T n t) = o := ⟨(otP T n (sdP T n t)).toNat, by omega⟩
          have F2 : FrD d M1 M2 := ⟨fun y h1 h2 => t2 y h1 (by omega), fun j hj => t3 j (by omega), fun j hj => ⟨(t2 17 (by omega) (by omega) j).1, (t2 18 (by omega) (by omega) j).2.1⟩, fun j hj => (t2 19 (by omega) (by omega) j).1⟩
          have h192 : zI M2 19 d = ((n + 1 : Nat) : Int) := (t2 19 (by omega) (by omega) d).1.trans h19'
          have B2 : BS M2 s := by
            obtain ⟨b1, b2, b3, b4, b5⟩ := B1
            exact ⟨(t2 14 (by omega) (by omega) 0).2.1.trans b1, (t2 14 (by omega) (by omega) 1).1.trans b2, (t2 14 (by omega) (by omega) 2).1.trans b3, b4, fun j hj => (t2 15 (by omega) (by omega) j).1.trans (b5 j hj)⟩
          have skip2 : ∀ M2, g_X1_search_227 (g_X1_search_29 f) b to a0 d i M2 = g_X1_search_29 (f - 0) b to a0 d ((i + 1 + 0 : Nat) : Int) M2 := by
            intro M2
            unfold g_X1_search_227
            rw [w32_id (x := (i : Int) + 1) (by omega) (by omega)]
            rfl
          -- is the thing behind it met
          have was : (met / 2 ^ o % 2 = 1 → g_X1_wasAt d (o : Int) M1 = some (1, M1)) ∧ (¬ met / 2 ^ o % 2 = 1 → g_X1_wasAt d (o : Int) M1 = some (0, M1)) := by
            unfold g_X1_wasAt
            constructor
            · intro w
              obtain ⟨j, w1, w2⟩ := (d6 o (by omega)).1 w
              have e6 := K_was_y (M := M1) (o := (o : Int)) hd3 (d + 1) 0 100000 (by omega) (by omega) ⟨j, by omega, w1, w2⟩
              rw [show ((0 : Nat) : Int) = 0 from rfl] at e6
              exact e6
            · intro w
              have e6 := K_was_n (M := M1) (o := (o : Int)) hd3 (d + 1) 0 100000 (by omega) (by omega) (fun j h1 h2 h3 => w ((d6 o (by omega)).2 ⟨j, h2, h3⟩))
              rw [show ((0 : Nat) : Int) = 0 from rfl] at e6
              exact e6
          rw [eo] at e2 hV1 hVs
          rw [Int.toNat_natCast] at hVs
          by_cases hh1 : (o : Int) = to
          · -- home
            have e5 : ∃ z : Int, g_X1_search_104 (g_X1_search_29 f) b to a0 d i n (o : Int) 1 M1 = g_X1_search_148 (g_X1_search_29 f) b to a0 d i n (o : Int) 1 z M1 := by
              unfold g_X1_search_104 g_X1_search_129 g_X1_search_130
              by_cases c3 : (3 : Int) ≤ w32 ((d : Int) + 1)
              · refine ⟨0, ?_⟩
                rw [if_pos c3, if_neg (show ¬ (o : Int) = -1 by omega), if_neg (show ¬ (1 : Int) = 0 by omega)]
              · rw [if_neg c3]
                by_cases cw : met / 2 ^ o % 2 = 1
                · refine ⟨0, ?_⟩
                  rw [was.1 cw]
                  simp only [bindS]
                  rw [if_neg (by omega), if_neg (show ¬ (o : Int) = -1 by omega), if_neg (show ¬ (1 : Int) = 0 by omega)]
                · refine ⟨1, ?_⟩
                  rw [was.2 cw]
                  simp only [bindS]
                  rw [if_pos trivial, if_neg (show ¬ (o : Int) = -1 by omega), if_neg (show ¬ (1 : Int) = 0 by omega)]
            obtain ⟨z, e5⟩ := e5
            rw [if_pos hh1, e5] at e2
            unfold g_X1_search_148 g_X1_search_186 at e2
            rw [t1] at e2
            simp only [bindS] at e2
            have hv := hV1.1 ⟨hg, hh1⟩
            have hsub := hVs (Or.inl (fun q => q.2.2 hh1))
            obtain ⟨r1, r2, r3, r4, r5⟩ := pc_row hD.1 hn
            by_cases cz : hpP N T L n (sdP T n t) a ≤ 0
            · rw [if_pos cz, if_pos cz, skip2] at e2
              refine cont 0 M2 (by omega) (F1.trans F2) h192 ?_ e2
              rw [fold_1 (by rw [hv]; exact cz) hsub]
              exact B2
            · obtain ⟨M3, q1, q2, q3⟩ := K_consider (V := V) B2 (r := 6 * c + n + 1) (d := d) (a := a0) r1.2 r1.1 r2 hd3 (fun j hj => by
                by_cases ej : j = d
                · rw [ej, t4, r3]; omega
                · rw [t3 j ej, d2 j (by omega), r5 j (by omega)]) hv (by omega) (by omega)
              rw [if_neg cz, if_neg (show ¬ (1 : Int) = 0 by omega), w32_id (x := (d : Int) + 1) (by omega) (by omega), show (d : Int) + 1 = ((d + 1 : Nat) : Int) by omega, q1] at e2
              simp only [bindS] at e2
              rw [skip2] at e2
              have F3 : FrD d M2 M3 := ⟨fun y h1 h2 => q3 y (by omega) (by omega), fun j hj => (q3 16 (by omega) (by omega) j).1, fun j hj => ⟨(q3 17 (by omega) (by omega) j).1, (q3 18 (by omega) (by omega) j).2.1⟩, fun j hj => (q3 19 (by omega) (by omega) j).1⟩
              refine cont 0 M3 (by omega) ((F1.trans F2).trans F3) ((q3 19 (by omega) (by omega) d).1.trans h192) ?_ e2
              rw [List.foldl_cons, fold_0 _ _ hsub]
              exact q2
          · -- not home
            rw [if_neg hh1] at e2
            have hv0 := hV1.2 (fun q => hh1 q.2)
            by_cases c3 : d = 2
            · obtain rfl : k = 0 := by omega
              have e5 : g_X1_search_104 (g_X1_search_29 f) b to a0 d i n (o : Int) 0 M1 = g_X1_search_227 (g_X1_search_29 f) b to a0 d i M1 := by
                unfold g_X1_search_104 g_X1_search_129 g_X1_search_130
                rw [w32_id (x := (d : Int) + 1) (by omega) (by omega), if_pos (show (3 : Int) ≤ (d : Int) + 1 by omega), if_neg (show ¬ (o : Int) = -1 by omega), if_pos rfl, if_pos rfl]
              rw [e5, skip2] at e2
              refine cont 0 M1 (by omega) F1 h19' ?_ e2
              rw [fold_1 (by rw [hv0]; omega) (fun r hr => absurd hr (by unfold dfs; exact List.not_mem_nil))]
              exact B1
            · by_cases cw : met / 2 ^ o % 2 = 1
              · have e5 : g_X1_search_104 (g_X1_search_29 f) b to a0 d i n (o : Int) 0 M1 = g_X1_search_227 (g_X1_search_29 f) b to a0 d i M1 := by
                  unfold g_X1_search_104 g_X1_search_129 g_X1_search_130
                  rw [w32_id (x := (d : Int) + 1) (by omega) (by omega), if_neg (show ¬ (3 : Int) ≤ (d : Int) + 1 by omega), was.1 cw]
                  simp only [bindS]
                  rw [if_neg (by omega), if_neg (show ¬ (o : Int) = -1 by omega), if_pos trivial, if_pos trivial]
                rw [e5, skip2] at e2
                refine cont 0 M1 (by omega) F1 h19' ?_ e2
                rw [fold_1 (by rw [hv0]; omega) (hVs (Or.inl (fun q => q.2.1 cw)))]
                exact B1
              · have e5 : g_X1_search_104 (g_X1_search_29 f) b to a0 d i n (o : Int) 0 M1 = g_X1_search_148 (g_X1_search_29 f) b to a0 d i n (o : Int) 0 1 M1 := by
                  unfold g_X1_search_104 g_X1_search_129 g_X1_search_130
                  rw [w32_id (x := (d : Int) + 1) (by omega) (by omega), if_neg (show ¬ (3 : Int) ≤ (d : Int) + 1 by omega), was.2 cw]
                  simp only [bindS]
                  rw [if_pos trivial, if_neg (show ¬ (o : Int) = -1 by omega), if_pos trivial, if_neg (by omega)]
                rw [e5] at e2
                unfold g_X1_search_148 g_X1_search_186 at e2
                rw [t1] at e2
                simp only [bindS] at e2
                by_cases cz : hpP N T L n (sdP T n t) a ≤ 0
                · rw [if_pos cz, if_pos cz, skip2] at e2
                  refine cont 0 M2 (by omega) (F1.trans F2) h192 ?_ e2
                  rw [fold_1 (by rw [hv0]; omega) (hVs (Or.inr cz))]
                  exact B2
                · rw [if_neg cz, if_pos trivial, if_neg cz, if_neg (show ¬ (1 : Int) = 0 by omega)] at e2
                  unfold g_X1_search_201 at e2
                  rw [w32_id (x := (d : Int) + 1) (by omega) (by omega), show (d : Int) + 1 = ((d + 1 : Nat) : Int) by omega, if_pos (show (0 : Int) ≤ ((d + 1 : Nat) : Int) ∧ ((d + 1 : Nat) : Int) < ((3 : Nat) : Int) by omega), if_pos (show (0 : Int) ≤ ((d + 1 : Nat) : Int) ∧ ((d + 1 : Nat) : Int) < ((3 : Nat) : Int) by omega), if_pos (show (0 : Int) ≤ ((d + 1 : Nat) : Int) ∧ ((d + 1 : Nat) : Int) < ((3 : Nat) : Int) by omega), Int.toNat_natCast] at e2
                  have hgg : gdd T po thr n t ∧ ¬ (met / 2 ^ (otP T n (sdP T n t)).toNat % 2 = 1) ∧ otP T n (sdP T n t) ≠ to := by
                    rw [eo, Int.toNat_natCast]; exact ⟨hg, cw, hh1⟩
                  have hP' := PV_s hP hn d8.1 hgg
                  rw [eo, Int.toNat_natCast] at hP'
                  generalize ev : hpP N T L n (sdP T n t) a = v at *
                  have sk : g_X1_search_227 (g_X1_search_29 f) b to a0 ((d + 1 : Nat) : Int) i (uI (uL (uI M2 17 (d + 1) o) 18 (d + 1) v) 19 (d + 1) 0) = g_X1_search_29 f b to a0 ((d + 1 : Nat) : Int) ((i + 1 : Nat) : Int) (uI (uL (uI M2 17 (d + 1) o) 18 (d + 1) v) 19 (d + 1) 0) := by
                    unfold g_X1_search_227
                    rw [w32_id (x := (i : Int) + 1) (by omega) (by omega)]
                    rfl
                  rw [sk] at e2
                  generalize eM3 : uI (uL (uI M2 17 (d + 1) o) 18 (d + 1) v) 19 (d + 1) 0 = M3 at *
                  have x3 : (∀ y, y ≠ 17 → y ≠ 18 → y ≠ 19 → sameH M2 M3 y) ∧ (∀ j, zI M3 17 j = if j = d + 1 then (o : Int) else zI M2 17 j) ∧ (∀ j, zL M3 18 j = if j = d + 1 then v else zL M2 18 j) ∧ (∀ j, zI M3 19 j = if j = d + 1 then 0 else zI M2 19 j) := by
                    subst eM3
                    refine ⟨fun y h1 h2 h3 => ((sameH_uI h1).trans (sameH_uL h2)).trans (sameH_uI h3), fun j => ?_, fun j => ?_, fun j => ?_⟩
                    · rw [zI_uI, if_neg (by omega), zI_uL, zI_uI]
                      by_cases ej : j = d + 1
                      · rw [if_pos ⟨rfl, ej⟩, if_pos ej]
                      · rw [if_neg (fun q => ej q.2), if_neg ej]
                    · rw [zL_uI, zL_uL]
                      by_cases ej : j = d + 1
                      · rw [if_pos ⟨rfl, ej⟩, if_pos ej]
                      · rw [if_neg (fun q => ej q.2), if_neg ej]; rfl
                    · rw [zI_uI]
                      by_cases ej : j = d + 1
                      · rw [if_pos ⟨rfl, ej⟩, if_pos ej]
                      · rw [if_neg (fun q => ej q.2), if_neg ej, zI_uL, zI_uI, if_neg (by omega)]
                  obtain ⟨x1, x17, x18, x19⟩ := x3
                  have F3 : FrD d M2 M3 := ⟨fun y h1 h2 => x1 y (by omega) (by omega) (by omega), fun j hj => (x1 16 (by omega) (by omega) (by omega) j).1, fun j hj => ⟨by rw [x17, if_neg (by omega)], by rw [x18, if_neg (by omega)]⟩, fun j hj => by rw [x19, if_neg (by omega)]⟩
                  have FF := (F1.trans F2).trans F3
                  have R3 : Rep kk M3 b N T L th pe po := R.same (fun h h1 h2 => FF.1 h (by omega) (by omega))
                  have B3 : BS M3 s := by
                    obtain ⟨b1, b2, b3, b4, b5⟩ := B2
                    exact ⟨(x1 14 (by omega) (by omega) (by omega) 0).2.1.trans b1, (x1 14 (by omega) (by omega) (by omega) 1).1.trans b2, (x1 14 (by omega) (by omega) (by omega) 2).1.trans b3, b4, fun j hj => (x1 15 (by omega) (by omega) (by omega) j).1.trans (b5 j hj)⟩
                  obtain ⟨r1, r2, r3, r4, r5⟩ := pc_row hD.1 hn
                  have r16 : ∀ j, zI M3 16 j = if j = d then (n : Int) else zI M1 16 j := by
                    intro j
                    rw [(x1 16 (by omega) (by omega) (by omega) j).1]
                    by_cases ej : j = d
                    · rw [if_pos ej, ej, t4]
                    · rw [if_neg ej, t3 j ej]
                  have t17 : ∀ j, zI M3 17 j = if j = d + 1 then (o : Int) else zI M1 17 j := by
                    intro j
                    rw [x17, (t2 17 (by omega) (by omega) j).1]
                  have hD3 : DS M3 (d + 1) (6 * c + n + 1) o v (ms met o) (ms thr n) := by
                    refine ⟨pc_step hD.1 (by omega) hn, fun j hj => ?_, by rw [t17, if_pos rfl], by rw [x18, if_pos rfl], ⟨mk_lt met d5.1 o (by omega), mk_lt thr d5.2 n hn⟩, fun y hy => ?_, fun y hy => ?_, by omega⟩
                    · rw [r16]
                      by_cases ej : j = d
                      · rw [if_pos ej, ej, r3]; omega
                      · rw [if_neg ej, d2 j (by omega), r5 j (by omega)]
                    · refine (mk_has met d5.1 o (by omega) y hy).trans ⟨?_, ?_⟩
                      · rintro (w | w)
                        · obtain ⟨j, w1, w2⟩ := (d6 y hy).1 w
                          exact ⟨j, by omega, by rw [t17, if_neg (by omega)]; exact w2⟩
                        · exact ⟨d + 1, by omega, by rw [t17, if_pos rfl, w]⟩
                      · rintro ⟨j, w1, w2⟩
                        rw [t17] at w2
                        by_cases ej : j = d + 1
                        · rw [if_pos ej] at w2; exact Or.inr (by omega)
                        · rw [if_neg ej] at w2; exact Or.inl ((d6 y hy).2 ⟨j, by omega, w2⟩)
                    · refine (mk_has thr d5.2 n hn y hy).trans ⟨?_, ?_⟩
                      · rintro (w | w)
                        · obtain ⟨j, w1, w2⟩ := (d7 y hy).1 w
                          exact ⟨j, by omega, by rw [r16, if_neg (by omega)]; exact w2⟩
                        · exact ⟨d, by omega, by rw [r16, if_pos rfl, w]⟩
                      · rintro ⟨j, w1, w2⟩
                        rw [r16] at w2
                        by_cases ej : j = d
                        · rw [if_pos ej] at w2; exact Or.inr (by omega)
                        · rw [if_neg ej] at w2; exact Or.inl ((d7 y hy).2 ⟨j, by omega, w2⟩)
                  obtain ⟨y1, M4, g1, g2, g3, g4⟩ := ihk 5 0 f (i + 1) (d + 1) (6 * c + n + 1) o v (ms met o) (ms thr n) M3 s (by omega) (by omega) (by omega) R3 hD3 hP' B3 (by rw [x19, if_pos rfl]; rfl) (by omega) (by omega)
                  rw [g2, show ((d + 1 : Nat) : Int) + -1 = (d : Int) by omega] at e2
                  have F4 : FrD d M3 M4 := ⟨g4.1, fun j hj => g4.2.1 j (by omega), fun j hj => g4.2.2.1 j (by omega), fun j hj => g4.2.2.2 j (by omega)⟩
                  refine cont y1 M4 g1 (FF.trans F4) ?_ ?_ e2
                  · rw [g4.2.2.2 d (by omega), x19, if_neg (by omega), h192]
                  · rw [List.foldl_cons, show stp a0 V s (6 * c + n + 1) = s by unfold stp; rw [if_neg (fun q => by have := q.1; omega)]]
                    exact g3
end SE
