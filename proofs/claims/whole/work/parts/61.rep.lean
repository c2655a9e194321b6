/-! what both memories say of one market: N (now's cells ahead of the stakes), T (told), L (the stakes) -/
def d0 : Nat → Int := fun _ => 0
def ud (N : Nat → Int) (j : Nat) (v : Int) : Nat → Int := fun k => if k = j then v else N k
theorem ud_at (N : Nat → Int) (j : Nat) (v : Int) : ud N j v j = v := if_pos rfl
theorem ud_ne {N : Nat → Int} {j k : Nat} {v : Int} (h : k ≠ j) : ud N j v k = N k := if_neg h
def pad (w : Nat) : Nat := if w < 2 then 0 else if w < 4 then 1 else if w < 6 then 2 else if w = 6 then 0 else 3 + (w - 7) % 2
def ppl (w : Nat) : Nat := if w < 2 then 5 + w else if w < 4 then w - 2 else if w < 6 then w - 4 else if w = 6 then 7 else (w - 7) / 2
theorem pad_lt (w : Nat) : pad w < 5 := by
  unfold pad
  repeat' split
  all_goals omega
theorem pad_inj {w v : Nat} (h1 : pad w = pad v) (h2 : ppl w = ppl v) : w = v := by
  unfold pad at h1
  unfold ppl at h2
  repeat' split at h1
  all_goals first | omega | (repeat' split at h2) <;> omega
theorem pad_told {w j : Nat} (h1 : pad w = 0) (hj : j < 5) : ppl w ≠ j := by
  unfold pad at h1
  unfold ppl
  repeat' split at h1
  all_goals first | omega | (repeat' split) <;> omega
/-- a stake's ten numbers, as the objects have them -/
def zS (M : MZ) (h w : Nat) : Int := if w < 6 then zI M h w else if w < 8 then zL M (h + 1) (w - 6) else zL M (h + 2) (w - 8)
def HP (M : MZ) (b : Nat) : Prop := (∀ i, i < 12 → ∃ j, j < 12 ∧ zR M (b + 3) i = b + 29 + 3 * j) ∧ (∀ i j, i < 12 → j < 12 → zR M (b + 3) i = zR M (b + 3) j → i = j)
def Rep (k : Bool) (M : MZ) (b : Nat) (N T : Nat → Int) (L : List (Nat → Int)) (th pe po : Int) : Prop :=
  (zI M b 0 = th ∧ zI M b 1 = pe ∧ zI M b 2 = po ∧ zI M b 3 = L.length ∧ zI M b 4 = N 0 ∧ zI M b 5 = w32 (N 1)) ∧
  (∀ j, j < 20 → zI M (b + 1) j = w32 (N (2 + j))) ∧
  (∀ p : Nat, p < 5 → (p : Int) < po → ∀ j, j < 5 → zI M (b + 2 + 2 + 5 * p) j = T (5 * p + j)) ∧
  (∀ p : Nat, p < 5 → (p : Int) < po → ∀ w, w < 23 → (w < 6 ∨ k = true ∧ (w = 6 ∨ (((w - 7) / 2 : Nat) : Int) < N (22 + 23 * p + 6))) → zI M (b + 2 + 2 + 5 * p + pad w) (ppl w) = w32 (N (22 + 23 * p + w))) ∧
  (∀ i, i < L.length → ∀ w, w < 10 → zS M (zR M (b + 3) i) w = L.getD i d0 w) ∧
  HP M b ∧ L.length ≤ 12
def RepR (M : MZ) (N T : Nat → Int) (L : List (Nat → Int)) (th pe po : Int) : Prop :=
  (zI M 20 1 = th ∧ zI M 20 2 = pe ∧ zI M 20 3 = po) ∧ (∀ j, j < 25 → zI M 22 j = T j) ∧ (∀ j, j < 137 → zL M 23 j = N j) ∧ zL M 23 137 = L.length ∧
  (∀ i, i < L.length → ∀ w, w < 10 → zL M 23 (138 + 10 * i + w) = L.getD i d0 w) ∧ L.length ≤ 12
def sameH (M M' : MZ) (h : Nat) : Prop := ∀ k, zI M' h k = zI M h k ∧ zL M' h k = zL M h k ∧ zR M' h k = zR M h k
theorem sameH.rfl {M : MZ} {h : Nat} : sameH M M h := fun _ => ⟨Eq.refl _, Eq.refl _, Eq.refl _⟩
theorem sameH.trans {M M' M'' : MZ} {h : Nat} (a : sameH M M' h) (b : sameH M' M'' h) : sameH M M'' h := fun k => ⟨(b k).1.trans (a k).1, (b k).2.1.trans (a k).2.1, (b k).2.2.trans (a k).2.2⟩
theorem sameH_uI {M : MZ} {h a k : Nat} {v : Int} (hh : h ≠ a) : sameH M (uI M a k v) h := fun j => ⟨by rw [zI_uI, if_neg (fun q => hh q.1)], Eq.refl _, Eq.refl _⟩
theorem sameH_uL {M : MZ} {h a k : Nat} {v : Int} (hh : h ≠ a) : sameH M (uL M a k v) h := fun j => ⟨Eq.refl _, by rw [zL_uL, if_neg (fun q => hh q.1)], Eq.refl _⟩
theorem sameH_uR {M : MZ} {h a k : Nat} {v : Nat} (hh : h ≠ a) : sameH M (uR M a k v) h := fun j => ⟨Eq.refl _, Eq.refl _, by rw [zR_uR, if_neg (fun q => hh q.1)]⟩
/-- only what lies in the market b changed -/
def FrB (b : Nat) (M M' : MZ) : Prop := ∀ h, ¬ (b ≤ h ∧ h < b + 65) → sameH M M' h
theorem FrB.rfl {b : Nat} {M : MZ} : FrB b M M := fun _ _ => sameH.rfl
theorem FrB.trans {b : Nat} {M M' M'' : MZ} (h1 : FrB b M M') (h2 : FrB b M' M'') : FrB b M M'' := fun h hh => (h1 h hh).trans (h2 h hh)
theorem HP.kd {M : MZ} {b i : Nat} (hb : bOK b) (h : HP M b) (hi : i < 12) : kd (zR M (b + 3) i) = (6, 8) := by
  obtain ⟨j, hj, e⟩ := h.1 i hi
  rw [e]
  exact kds hb hj
theorem HP.rng {M : MZ} {b i : Nat} (h : HP M b) (hi : i < 12) : b + 29 ≤ zR M (b + 3) i ∧ zR M (b + 3) i + 2 < b + 65 := by
  obtain ⟨j, hj, e⟩ := h.1 i hi
  rw [e]
  omega
theorem HP.apart {M : MZ} {b i j : Nat} (h : HP M b) (hi : i < 12) (hj : j < 12) (hne : i ≠ j) : zR M (b + 3) i + 3 ≤ zR M (b + 3) j ∨ zR M (b + 3) j + 3 ≤ zR M (b + 3) i := by
  obtain ⟨x, hx, e⟩ := h.1 i hi
  obtain ⟨y, hy, f⟩ := h.1 j hj
  have : x ≠ y := fun q => hne (h.2 i j hi hj (by rw [e, f, q]))
  omega
theorem HP.same {M M' : MZ} {b : Nat} (hs : ∀ i, i < 12 → zR M' (b + 3) i = zR M (b + 3) i) (h : HP M b) : HP M' b := by
  refine ⟨fun i hi => ?_, fun i j hi hj => ?_⟩
  · rw [hs i hi]; exact h.1 i hi
  · rw [hs i hi, hs j hj]; exact h.2 i j hi hj
theorem zS_same {M M' : MZ} {h : Nat} (h0 : sameH M M' h) (h1 : sameH M M' (h + 1)) (h2 : sameH M M' (h + 2)) (w : Nat) : zS M' h w = zS M h w := by
  unfold zS
  rw [(h0 w).1, (h1 (w - 6)).2.1, (h2 (w - 8)).2.1]
theorem Rep.same {k : Bool} {M M' : MZ} {b : Nat} {N T : Nat → Int} {L : List (Nat → Int)} {th pe po : Int} (hs : ∀ h, b ≤ h → h < b + 65 → sameH M M' h) (h : Rep k M b N T L th pe po) : Rep k M' b N T L th pe po := by
  obtain ⟨⟨a0, a1, a2, a3, a4, a5⟩, hp, ht, hc, hL, hH, hn⟩ := h
  have e0 := fun j => (hs b (by omega) (by omega) j).1
  refine ⟨⟨by rw [e0]; exact a0, by rw [e0]; exact a1, by rw [e0]; exact a2, by rw [e0]; exact a3, by rw [e0]; exact a4, by rw [e0]; exact a5⟩, fun j hj => ?_, fun p p5 po j hj => ?_, fun p p5 po w hw hk => ?_, fun i hi w hw => ?_, HP.same (fun i hi => (hs (b + 3) (by omega) (by omega) i).2.2) hH, hn⟩
  · rw [(hs (b + 1) (by omega) (by omega) j).1]; exact hp j hj
  · rw [(hs (b + 2 + 2 + 5 * p) (by omega) (by omega) j).1]; exact ht p p5 po j hj
  · have := pad_lt w
    rw [(hs (b + 2 + 2 + 5 * p + pad w) (by omega) (by omega) (ppl w)).1]; exact hc p p5 po w hw hk
  · rw [(hs (b + 3) (by omega) (by omega) i).2.2]
    obtain ⟨r1, r2⟩ := hH.rng (i := i) (by omega)
    rw [zS_same (hs _ (by omega) (by omega)) (hs _ (by omega) (by omega)) (hs _ (by omega) (by omega))]
    exact hL i hi w hw
theorem RepR.same {M M' : MZ} {N T : Nat → Int} {L : List (Nat → Int)} {th pe po : Int} (hs : ∀ h, 20 ≤ h → h < 38 → sameH M M' h) (h : RepR M N T L th pe po) : RepR M' N T L th pe po := by
  obtain ⟨⟨a0, a1, a2⟩, hT, hN, hn, hL, h12⟩ := h
  have e0 := fun j => (hs 20 (by omega) (by omega) j).1
  have e1 := fun j => (hs 22 (by omega) (by omega) j).1
  have e2 := fun j => (hs 23 (by omega) (by omega) j).2.1
  refine ⟨⟨by rw [e0]; exact a0, by rw [e0]; exact a1, by rw [e0]; exact a2⟩, fun j hj => by rw [e1]; exact hT j hj, fun j hj => by rw [e2]; exact hN j hj, by rw [e2]; exact hn, fun i hi w hw => by rw [e2]; exact hL i hi w hw, h12⟩
/-- rows of stakes, together -/
def sumL (f : (Nat → Int) → Int) : List (Nat → Int) → Int
  | [] => 0
  | s :: l => f s + sumL f l
theorem sumL_app (f : (Nat → Int) → Int) (a b : List (Nat → Int)) : sumL f (a ++ b) = sumL f a + sumL f b := by
  induction a with
  | nil => show sumL f b = 0 + sumL f b; omega
  | cons s l ih => show f s + sumL f (l ++ b) = f s + sumL f l + sumL f b; omega
theorem take_succ_getD {L : List (Nat → Int)} {i : Nat} (h : i < L.length) : L.take (i + 1) = L.take i ++ [L.getD i d0] := by
  rw [List.take_succ, List.getD_eq_getElem?_getD, List.getElem?_eq_getElem h]
  rfl
theorem sumL_take (f : (Nat → Int) → Int) {L : List (Nat → Int)} {i : Nat} (h : i < L.length) : sumL f (L.take (i + 1)) = sumL f (L.take i) + f (L.getD i d0) := by
  rw [take_succ_getD h, sumL_app]
  show sumL f (L.take i) + (f _ + 0) = _
  omega
theorem getD_mem {L : List (Nat → Int)} {i : Nat} (h : i < L.length) : L.getD i d0 ∈ L := by
  rw [List.getD_eq_getElem?_getD, List.getElem?_eq_getElem h]
  exact List.getElem_mem h
/-- liquidity of a pool in a zone -/
def dpf (p z : Int) (s : Nat → Int) : Int := if s 1 = p ∧ s 2 ≤ z ∧ z < s 3 then s 5 else 0
def dep (L : List (Nat → Int)) (p z : Int) : Int := sumL (dpf p z) L
/-- what every stake keeps to -/
def Sok (pe po : Int) (s : Nat → Int) : Prop := (0 ≤ s 0 ∧ s 0 < pe) ∧ (0 ≤ s 1 ∧ s 1 < po) ∧ (0 ≤ s 2 ∧ s 2 < s 3 ∧ s 3 ≤ 40) ∧ (0 ≤ s 4 ∧ s 4 ≤ 2) ∧ (1 ≤ s 5 ∧ s 5 ≤ 999999) ∧ (∀ w, w64 (s w) = s w)
def Lok (pe po : Int) (L : List (Nat → Int)) : Prop := ∀ s, s ∈ L → Sok pe po s
theorem dep_take_r {pe po : Int} {L : List (Nat → Int)} (h : Lok pe po L) (p z : Int) : ∀ i, i ≤ L.length → 0 ≤ sumL (dpf p z) (L.take i) ∧ sumL (dpf p z) (L.take i) ≤ 999999 * i := by
  intro i
  induction i with
  | zero => intro _; exact ⟨Int.le_refl _, by simp [sumL]⟩
  | succ k ih =>
    intro hk
    obtain ⟨h1, h2⟩ := ih (by omega)
    rw [sumL_take _ (by omega)]
    have hs := (h _ (getD_mem (show k < L.length by omega))).2.2.2.2.1
    unfold dpf at *
    split <;> omega
theorem dep_r {pe po : Int} {L : List (Nat → Int)} (h : Lok pe po L) (hn : L.length ≤ 12) (p z : Int) : 0 ≤ dep L p z ∧ dep L p z ≤ 11999988 := by
  obtain ⟨h1, h2⟩ := dep_take_r h p z L.length (Nat.le_refl _)
  rw [List.take_length] at h1 h2
  unfold dep
  omega
