/-! a swap done goes the way of the swap on paper -/
def Vis (L L0 : List (Nat → Int)) (p : Nat) (side e z : Int) : Prop := ∀ y : Int, (side = 0 → y ≤ z) → (side = 1 → z ≤ y) → dep L p y = dep L0 p y ∧ aim L p side y e = aim L0 p side y e
section LK
variable {T : Nat → Int} {th pe po : Int}
theorem dep_sh (L : List (Nat → Int)) (p : Nat) (z : Int) (k : Nat) (g : Int) (q : Nat) (y : Int) : dep (shL L p z k g) q y = dep L q y := by
  unfold dep shL
  induction L with
  | nil => rfl
  | cons s l ih =>
    show dpf q y (shS p z k g s) + sumL (dpf q y) (l.map (shS p z k g)) = dpf q y s + sumL (dpf q y) l
    rw [ih]
    have : dpf q y (shS p z k g s) = dpf q y s := by
      unfold dpf
      rw [shS_lo _ _ _ _ _ (by omega), shS_lo _ _ _ _ _ (by omega), shS_lo _ _ _ _ _ (by omega), shS_lo _ _ _ _ _ (by omega)]
    rw [this]
theorem aim_sh (L : List (Nat → Int)) (p : Nat) (z : Int) (k : Nat) (g : Int) (q : Nat) (side y e : Int) : aim (shL L p z k g) q side y e = aim L q side y e := by
  unfold aim shL
  induction L generalizing e with
  | nil => rfl
  | cons s l ih =>
    show (l.map (shS p z k g)).foldl (amL q side y) (amL q side y e (shS p z k g s)) = l.foldl (amL q side y) (amL q side y e s)
    rw [ih]
    have : amL q side y e (shS p z k g s) = amL q side y e s := by
      unfold amL
      rw [shS_lo _ _ _ _ _ (by omega), shS_lo _ _ _ _ _ (by omega), shS_lo _ _ _ _ _ (by omega)]
    rw [this]
theorem dep_shR (L : List (Nat → Int)) (p : Nat) (z : Int) (k : Nat) (fee : Int) (q : Nat) (y : Int) : dep (shR T L p z k fee) q y = dep L q y := by
  unfold shR
  split
  · rfl
  · exact dep_sh ..
theorem aim_shR (L : List (Nat → Int)) (p : Nat) (z : Int) (k : Nat) (fee : Int) (q : Nat) (side y e : Int) : aim (shR T L p z k fee) q side y e = aim L q side y e := by
  unfold shR
  split
  · rfl
  · exact aim_sh ..
/-- what was dropped is not met again -/
theorem vis_dr {L : List (Nat → Int)} (hL : Lok pe po L) (p : Nat) {side tick y : Int} (hs : side = 0 ∨ side = 1) (h0 : side = 0 → y < tick) (h1 : side = 1 → tick ≤ y) (e : Int) : dep (drL p side tick L) p y = dep L p y ∧ aim (drL p side tick L) p side y e = aim L p side y e := by
  have key : ∀ s, Sok pe po s → dq p side tick s = true → dpf p y s = 0 ∧ ∀ a, amL p side y a s = a := by
    intro s hk hd
    obtain ⟨d1, d2⟩ := of_decide_eq_true hd
    have h2 := hk.2.2.1
    unfold dpf amL amS
    rcases hs with rfl | rfl
    · rw [if_pos rfl] at d2
      have := h0 rfl
      refine ⟨if_neg (by omega), fun a => ?_⟩
      rw [if_pos d1, if_pos rfl, if_pos rfl, if_neg (by omega), if_neg (by omega)]
    · rw [if_neg (by omega)] at d2
      have := h1 rfl
      refine ⟨if_neg (by omega), fun a => ?_⟩
      rw [if_pos d1, if_neg (by omega), if_neg (by omega), if_neg (by omega), if_neg (by omega)]
  unfold dep aim drL
  induction L generalizing e with
  | nil => exact ⟨rfl, rfl⟩
  | cons s l ih =>
    have hl : Lok pe po l := fun x hx => hL x (List.mem_cons_of_mem _ hx)
    have hsk := hL s (List.mem_cons_self ..)
    rw [List.filter_cons]
    by_cases c : dq p side tick s = true
    · obtain ⟨k1, k2⟩ := key s hsk c
      have hn : nq p side tick s = false := by unfold nq; rw [c]; rfl
      rw [hn, if_neg (by decide)]
      obtain ⟨i1, i2⟩ := ih hl e
      refine ⟨?_, ?_⟩
      · rw [i1]
        show _ = dpf p y s + sumL (dpf p y) l
        rw [k1]; omega
      · rw [i2]
        show _ = l.foldl (amL p side y) (amL p side y e s)
        rw [k2]
    · have hn : nq p side tick s = true := by unfold nq; simpa using c
      rw [hn, if_pos rfl]
      obtain ⟨i1, i2⟩ := ih hl (amL p side y e s)
      exact ⟨by show dpf p y s + _ = dpf p y s + _; rw [i1], i2⟩
def toP (p : Nat) (s : SW) : PT := (xr s.1 p, xz s.1 p, s.2.2.1, s.2.2.2.2.1, s.2.2.2.1, s.2.2.2.2.2.1, s.2.2.2.2.2.2)
theorem y_cg {L L0 : List (Nat → Int)} {p : Nat} {side e o r z left : Int} (hd : dep L p z = dep L0 p z) (ha : aim L p side z e = aim L0 p side z e) : yRt T L p side e o r z left = yRt T L0 p side e o r z left ∧ yGo T L p side e o r z left = yGo T L0 p side e o r z left ∧ yCo T L p side e o r z left = yCo T L0 p side e o r z left ∧ yFe T L p side e o r z left = yFe T L0 p side e o r z left ∧ yLe T L p side e o r z left = yLe T L0 p side e o r z left ∧ yC T L p side e o r z left = yC T L0 p side e o r z left ∧ yE T L p side e o r z left = yE T L0 p side e o r z left ∧ yZ T L p side e o r z left = yZ T L0 p side e o r z left := by
  unfold yZ yC yE yRt yGo yCo yFe yLe yRe
  rw [hd, ha]
  exact ⟨rfl, rfl, rfl, rfl, rfl, rfl, rfl, rfl⟩
theorem sw_pt {p : Nat} {side e o : Int} (hb : Pbg p po side e o) {L0 : List (Nat → Int)} : ∀ (n : Nat) (ae : Bool) (s : SW), WF s.1 T s.2.1 th pe po → s.2.1.length ≤ 12 → Pae p side e ae s → Vis s.2.1 L0 p side e (xz s.1 p) → toP p (swp T p side e o n ae s) = pth T L0 p side e o n ae (toP p s) := by
  intro n
  induction n with
  | zero => intro ae s _ _ _ _; rfl
  | succ n ih =>
    intro ae s W h12 ha hv
    have e1 : swp T p side e o (n + 1) ae s = if s.2.2.1 ≤ 0 ∨ ae = true then s else swp T p side e o n (xE s.1 T s.2.1 p side e o s.2.2.1) (swS T p side e o s) := rfl
    have e2 : pth T L0 p side e o (n + 1) ae (toP p s) = if s.2.2.1 ≤ 0 ∨ ae = true then toP p s else pth T L0 p side e o n (yE T L0 p side e o (xr s.1 p) (xz s.1 p) s.2.2.1) (ptS T L0 p side e o (toP p s)) := rfl
    rw [e1, e2]
    by_cases c : s.2.2.1 ≤ 0 ∨ ae = true
    · rw [if_pos c, if_pos c]
    · rw [if_neg c, if_neg c]
      have hg := Pgo_of (T := T) hb ha c
      obtain ⟨w1, w2, w3, w4⟩ := swS_next hb ha c W h12
      obtain ⟨n1, n2, n3, n4⟩ := xN_WF W h12 hg
      obtain ⟨z1, z2, z3⟩ := xZ_rz W h12 hg
      obtain ⟨v1, v2⟩ := hv (xz s.1 p) (fun _ => Int.le_refl _) (fun _ => Int.le_refl _)
      obtain ⟨c1, c2, c3, c4, c5, c6, c7, c8⟩ := y_cg (T := T) (o := o) (r := xr s.1 p) (left := s.2.2.1) v1 v2
      have ez : xz (swS T p side e o s).1 p = xZ s.1 T s.2.1 p side e o s.2.2.1 := n3
      have er : xr (swS T p side e o s).1 p = xRt s.1 T s.2.1 p side e o s.2.2.1 := n2
      have hst : toP p (swS T p side e o s) = ptS T L0 p side e o (toP p s) := by
        unfold toP
        rw [er, ez]
        unfold ptS swS
        dsimp only
        rw [← c1, ← c2, ← c3, ← c4, ← c5, ← c6, ← c8]
        rfl
      have hE : xE s.1 T s.2.1 p side e o s.2.2.1 = yE T L0 p side e o (xr s.1 p) (xz s.1 p) s.2.2.1 := by rw [← c7]; rfl
      have hv' : Vis (swS T p side e o s).2.1 L0 p side e (xz (swS T p side e o s).1 p) := by
        rw [ez]
        intro y y0 y1
        have hv0 := hv y (fun q => by have := y0 q; have := (z2 q).1; omega) (fun q => by have := y1 q; have := (z3 q).1; omega)
        have hb1 : dep (xL1 s.1 T s.2.1 p side e o s.2.2.1) p y = dep s.2.1 p y := dep_shR ..
        have hb2 : aim (xL1 s.1 T s.2.1 p side e o s.2.2.1) p side y e = aim s.2.1 p side y e := aim_shR ..
        show dep (xL s.1 T s.2.1 p side e o s.2.2.1) p y = _ ∧ aim (xL s.1 T s.2.1 p side e o s.2.2.1) p side y e = _
        unfold xL
        by_cases cC : xC s.1 T s.2.1 p side e o s.2.2.1 = true
        · rw [if_pos cC]
          have hok : Lok pe po (xL1 s.1 T s.2.1 p side e o s.2.2.1) := shR_ok W.2.2 _ _ _ _
          obtain ⟨d1, d2⟩ := vis_dr hok p (side := side) (tick := xA s.1 s.2.1 p side e) (y := y) hb.2.2.1 (fun q => by have := ((z2 q).2 cC).2.2; have := y0 q; omega) (fun q => by have := ((z3 q).2 cC).2.2; have := y1 q; omega) e
          rw [d1, d2, hb1, hb2]
          exact hv0
        · rw [if_neg cC, hb1, hb2]
          exact hv0
      rw [hE, ← hst, ← hE]
      exact ih _ _ w1 w2 w3 hv'
/-- the same for a whole swap -/
theorem swap_pt {N : Nat → Int} {L : List (Nat → Int)} (W : WF N T L th pe po) (h12 : L.length ≤ 12) {p : Nat} {side e o amount : Int} (hb : Pbg p po side e o) (ha : 0 < amount ∧ amount ≤ 10000000000) : toP p (swap N T L p side amount e o) = pth T L p side e o 50 (ae0 N p side e) (xr N p, xz N p, amount, 0, 0, 0, 0) := by
  have h3 := hb.2.2.1
  refine sw_pt hb 50 (ae0 N p side e) (N, L, amount, 0, 0, 0, 0) W h12 ⟨fun q => ?_, by show 0 ≤ amount ∧ amount ≤ 10000000000; omega⟩ (fun y _ _ => ⟨rfl, rfl⟩)
  unfold ae0 at q
  show if side = 0 then e ≤ xz N p else xz N p < e
  rcases h3 with rfl | rfl
  · rw [if_pos rfl] at q ⊢
    have := of_decide_eq_false q
    omega
  · rw [if_neg (by omega)] at q ⊢
    have := of_decide_eq_false q
    omega
end LK
