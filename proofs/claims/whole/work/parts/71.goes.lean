/-! settling; what goes between pool and purse -/
theorem w64_id_of {x : Int} (h : w64 x = x) : -9223372036854775808 ≤ x ∧ x ≤ 9223372036854775807 := by
  rw [← h]
  unfold w64 Int.bmod
  simp only []
  split <;> omega
def hc (p k : Nat) : Nat := 22 + 23 * p + (2 + k)
def uc (T : Nat → Int) (p k per : Nat) : Nat := 2 + (5 * per + (T (5 * p + k)).toNat)
/-- so much of one thing goes from a pool into a purse -/
def gOut (N T : Nat → Int) (p k per : Nat) (v : Int) : Nat → Int := fun j => if j = hc p k then w64 (N j - v) else if j = uc T p k per then w64 (N j + v) else N j
theorem w64_sl (x y : Int) : w64 (x + w64 (-y)) = w64 (x - y) := by
  have := w64_d (-y)
  rw [w64_iff]
  omega
def stl (s : Nat → Int) : Nat → Int := ud (ud (ud (ud s 8 (owd s 0)) 6 0) 9 (owd s 1)) 7 0
theorem stl_at (s : Nat → Int) (w : Nat) : stl s w = if w = 6 ∨ w = 7 then 0 else if w = 8 then owd s 0 else if w = 9 then owd s 1 else s w := by
  unfold stl ud
  by_cases h7 : w = 7
  · rw [if_pos h7, if_pos (Or.inr h7)]
  · rw [if_neg h7]
    by_cases h9 : w = 9
    · rw [if_pos h9, if_neg (by omega), if_neg (by omega), if_pos h9]
    · rw [if_neg h9]
      by_cases h6 : w = 6
      · rw [if_pos h6, if_pos (Or.inl h6)]
      · rw [if_neg h6, if_neg (show ¬ (w = 6 ∨ w = 7) by omega)]
        by_cases h8 : w = 8
        · rw [if_pos h8, if_pos h8]
        · rw [if_neg h8, if_neg h8, if_neg h9]
def Fr23 (M M' : MZ) : Prop := ∀ h, h ≠ 23 → sameH M M' h
theorem Fr23.rfl {M : MZ} : Fr23 M M := fun _ _ => sameH.rfl
theorem Fr23.trans {M M' M'' : MZ} (h1 : Fr23 M M') (h2 : Fr23 M' M'') : Fr23 M M'' := fun h hh => (h1 h hh).trans (h2 h hh)
theorem Fr23_u {M : MZ} {k : Nat} {v : Int} : Fr23 M (uL M 23 k v) := fun _ hh => sameH_uL hh
theorem KON.mv {M M' : MZ} (h : ∀ x, x = 20 ∨ x = 21 ∨ x = 33 → sameH M M' x) (K : KON M) : KON M' :=
  ⟨fun j hj => by rw [(h 21 (by omega) j).2.1]; exact K.1 j hj, fun j a c => by rw [(h 20 (by omega) j).2.1]; exact K.2.1 j a c, fun j hj => by rw [(h 33 (by omega) j).2.1]; exact K.2.2 j hj⟩
theorem KON.f23 {M M' : MZ} (h : Fr23 M M') (K : KON M) : KON M' := K.mv (fun x hx => h x (by omega))
def ozw (M : MZ) (h k : Nat) : Int := w64 (zL M (h + 2) k + w64 (Int.tdiv (w64 (zI M h 5 * zL M (h + 1) k)) 1048576))
theorem K_owed_raw {h : Nat} (kh : kd h = (6, 8)) {k : Int} (hk : k = 0 ∨ k = 1) (M : MZ) : g_X7_owed h k M = some (ozw M h k.toNat, M) := by
  unfold g_X7_owed g_X7_owed_9 ozw
  rw [if_neg (by omega), if_pos (by omega), if_pos kh, if_pos (by omega), if_pos (by omega)]
theorem K_settle_raw {h : Nat} (kh : kd h = (6, 8)) (M : MZ) : g_X7_settle h M = some ((), uS (uS (uS (uS M h 8 (ozw M h 0)) h 6 0) h 9 (ozw M h 1)) h 7 0) := by
  have e : ∀ (f : Nat) (k : Int) (M : MZ), g_X7_settle_2 (f + 1) h k M = g_X7_settle_2B (g_X7_settle_2 f) h k M := fun _ _ _ => rfl
  have s0 : ∀ (f : Nat), g_X7_settle_2 (f + 1) h 0 M = g_X7_settle_2 f h 1 (uS (uS M h 8 (ozw M h 0)) h 6 0) := by
    intro f
    rw [e]
    unfold g_X7_settle_2B
    rw [if_neg (by omega), if_pos kh, K_owed_raw kh (Or.inl rfl)]
    simp only [bindS]
    rw [if_pos (by omega), if_pos (by omega), w32_id (by omega) (by omega)]
    rfl
  have s1 : ∀ (f : Nat) (M : MZ), g_X7_settle_2 (f + 1) h 1 M = g_X7_settle_2 f h 2 (uS (uS M h 9 (ozw M h 1)) h 7 0) := by
    intro f M
    rw [e]
    unfold g_X7_settle_2B
    rw [if_neg (by omega), if_pos kh, K_owed_raw kh (Or.inr rfl)]
    simp only [bindS]
    rw [if_pos (by omega), if_pos (by omega), w32_id (by omega) (by omega)]
    rfl
  have s2 : ∀ (f : Nat) (M : MZ), g_X7_settle_2 (f + 1) h 2 M = some ((), M) := by
    intro f M
    rw [e]
    unfold g_X7_settle_2B
    rw [if_pos (by omega)]
  have eo : ozw (uS (uS M h 8 (ozw M h 0)) h 6 0) h 1 = ozw M h 1 := by
    unfold ozw uS
    rw [if_neg (by omega), if_pos (by omega), if_neg (by omega), if_neg (by omega)]
    rw [zL_uL, if_neg (by omega), zL_uL, if_neg (by omega), zI_uL, zI_uL, zL_uL, if_neg (by omega), zL_uL, if_neg (by omega)]
  have := (s0 99999).trans ((s1 99998 _).trans (s2 99997 _))
  rw [eo] at this
  exact this
section GO
variable {M : MZ} {b : Nat} {kk : Bool} {N T : Nat → Int} {L : List (Nat → Int)} {th pe po : Int}
theorem set_self {i : Nat} (hi : i < L.length) : L.set i (L.getD i d0) = L := by
  rw [List.getD_eq_getElem?_getD, List.getElem?_eq_getElem hi]
  exact List.set_getElem_self hi
theorem Rep.stake2 {i : Nat} {s : Nat → Int} (hi : i < L.length) (R : Rep kk M b N T (L.set i s) th pe po) {w h : Nat} (hw : w < 10) (v : Int) (hh : zR M (b + 3) i = h) : Rep kk (uS M h w v) b N T (L.set i (ud s w v)) th pe po := by
  subst hh
  have := R.stake (i := i) (w := w) (by rw [List.length_set]; exact hi) hw v
  rw [getD_set hi, if_pos rfl, List.set_set] at this
  exact this
theorem RepR.stake2 {i : Nat} {s : Nat → Int} (hi : i < L.length) (R : RepR M N T (L.set i s) th pe po) {w : Nat} (hw : w < 10) (v : Int) : RepR (uL M 23 (138 + 10 * i + w) v) N T (L.set i (ud s w v)) th pe po := by
  have := R.stake (i := i) (w := w) (by rw [List.length_set]; exact hi) hw v
  rw [getD_set hi, if_pos rfl, List.set_set] at this
  exact this
theorem ozw_rep (R : Rep kk M b N T L th pe po) {i k : Nat} (hi : i < L.length) (hk : k < 2) : ozw M (zR M (b + 3) i) k = owd (L.getD i d0) k := by
  unfold ozw owd
  rw [K_sI R hi (w := 5) (by omega), K_sG R hi hk, K_sD R hi hk]
theorem FrB_uS {h w : Nat} {v : Int} (hh : b ≤ h ∧ h + 2 < b + 65) : FrB b M (uS M h w v) := fun x hx => sameH_uS (by omega)
theorem K_settle (hb : bOK b) (R : Rep kk M b N T L th pe po) {i : Nat} (hi : i < L.length) : ∃ M', g_X7_settle (zR M (b + 3) i) M = some ((), M') ∧ Rep kk M' b N T (L.set i (stl (L.getD i d0))) th pe po ∧ FrB b M M' ∧ (∀ a k, zR M' a k = zR M a k) := by
  have h12 := R.2.2.2.2.2.2
  have r := R.2.2.2.2.2.1.rng (i := i) (by omega)
  refine ⟨_, K_settle_raw (R.2.2.2.2.2.1.kd hb (by omega)) M, ?_, ?_, ?_⟩
  · rw [ozw_rep R hi (by omega), ozw_rep R hi (by omega)]
    have R0 : Rep kk M b N T (L.set i (L.getD i d0)) th pe po := by rw [set_self hi]; exact R
    have R1 := R0.stake2 hi (w := 8) (by omega) (owd (L.getD i d0) 0) rfl
    have R2 := R1.stake2 hi (w := 6) (by omega) 0 (zR_uS _ _ _ _ _ _)
    have R3 := R2.stake2 hi (w := 9) (by omega) (owd (L.getD i d0) 1) ((zR_uS _ _ _ _ _ _).trans (zR_uS _ _ _ _ _ _))
    exact R3.stake2 hi (w := 7) (by omega) 0 ((zR_uS _ _ _ _ _ _).trans ((zR_uS _ _ _ _ _ _).trans (zR_uS _ _ _ _ _ _)))
  · exact (((FrB_uS (by omega)).trans (FrB_uS (by omega))).trans (FrB_uS (by omega))).trans (FrB_uS (by omega))
  · intro a k
    rw [zR_uS, zR_uS, zR_uS, zR_uS]
theorem R_settles (R : RepR M N T L th pe po) {i : Nat} (hi : i < L.length) : ∃ M', g_X12_settles i M = some ((), M') ∧ RepR M' N T (L.set i (stl (L.getD i d0))) th pe po ∧ Fr23 M M' := by
  have h12 := R.2.2.2.2.2
  have e : ∀ (f : Nat) (k : Int) (M : MZ), g_X12_settles_2 (f + 1) i k M = g_X12_settles_2B (g_X12_settles_2 f) i k M := fun _ _ _ => rfl
  have h12' : i < 12 := by omega
  have R0 : RepR M N T (L.set i (L.getD i d0)) th pe po := by rw [set_self hi]; exact R
  have R1 := R0.stake2 hi (w := 8) (by omega) (owd (L.getD i d0) 0)
  have R2 := R1.stake2 hi (w := 6) (by omega) 0
  have R3 := R2.stake2 hi (w := 9) (by omega) (owd (L.getD i d0) 1)
  have R4 := R3.stake2 hi (w := 7) (by omega) 0
  refine ⟨_, ?_, R4, ((Fr23_u.trans Fr23_u).trans Fr23_u).trans Fr23_u⟩
  have o0 : g_X12_owedTo i 0 M = some (owd (L.getD i d0) 0, M) := R_owedTo R hi (k := 0) (by omega)
  have o1 := R_owedTo R2 (i := i) (k := 1) (by rw [List.length_set]; exact hi) (by omega)
  rw [getD_set hi, if_pos rfl] at o1
  have o1' : owd (ud (ud (L.getD i d0) 8 (owd (L.getD i d0) 0)) 6 0) 1 = owd (L.getD i d0) 1 := rfl
  rw [o1'] at o1
  have s0 : ∀ (f : Nat), g_X12_settles_2 (f + 1) i 0 M = g_X12_settles_2 f i 1 (uL (uL M 23 (138 + 10 * i + 8) (owd (L.getD i d0) 0)) 23 (138 + 10 * i + 6) 0) := by
    intro f
    rw [e]
    unfold g_X12_settles_2B
    rw [if_neg (by omega), o0]
    simp only [bindS]
    rw [w32_id (x := 8 + 0) (by omega) (by omega), R_setStake h12' (by omega) (by omega)]
    simp only [bindS]
    rw [w32_id (x := 6 + 0) (by omega) (by omega), R_setStake h12' (by omega) (by omega)]
    simp only [bindS]
    rw [w32_id (by omega) (by omega)]
    rfl
  have s1 : ∀ (f : Nat), g_X12_settles_2 (f + 1) i 1 (uL (uL M 23 (138 + 10 * i + 8) (owd (L.getD i d0) 0)) 23 (138 + 10 * i + 6) 0) = g_X12_settles_2 f i 2 (uL (uL (uL (uL M 23 (138 + 10 * i + 8) (owd (L.getD i d0) 0)) 23 (138 + 10 * i + 6) 0) 23 (138 + 10 * i + 9) (owd (L.getD i d0) 1)) 23 (138 + 10 * i + 7) 0) := by
    intro f
    rw [e]
    unfold g_X12_settles_2B
    rw [if_neg (by omega), show ((1 : Int)) = ((1 : Nat) : Int) from rfl, o1]
    simp only [bindS]
    rw [w32_id (x := 8 + ((1 : Nat) : Int)) (by omega) (by omega), R_setStake h12' (by omega) (by omega)]
    simp only [bindS]
    rw [w32_id (x := 6 + ((1 : Nat) : Int)) (by omega) (by omega), R_setStake h12' (by omega) (by omega)]
    simp only [bindS]
    rw [w32_id (by omega) (by omega)]
    rfl
  have s2 : ∀ (f : Nat) (M : MZ), g_X12_settles_2 (f + 1) i 2 M = some ((), M) := by
    intro f M
    rw [e]
    unfold g_X12_settles_2B
    rw [if_pos (by omega)]
  exact (s0 99999).trans ((s1 99998).trans (s2 99997 _))
theorem K_payOut (hb : bOK b) (R : Rep kk M b N T L th pe po) {p k per : Nat} (hp : p < 5) (hq : (p : Int) < po) (hk : k < 2) (hper : per < 4) (ht : 0 ≤ T (5 * p + k) ∧ T (5 * p + k) < 5) {x v : Int} (hv : w32 x = w32 v) : ∃ M', g_X2_payOut b (b + 2 + 2 + 5 * p) k per x M = some ((), M') ∧ Rep kk M' b (gOut N T p k per v) T L th pe po ∧ FrB b M M' ∧ (∀ a k, zR M' a k = zR M a k) := by
  obtain ⟨t, et⟩ := zR_nat ht.1
  have ht5 : t < 5 := by omega
  have h1 := K_held R hp hq hk
  have pk : pad (2 + k) = 1 := by unfold pad; repeat' split
                                  all_goals omega
  have qk : ppl (2 + k) = k := by unfold ppl; repeat' split
                                  all_goals omega
  have R1 := R.pool (p := p) (w := 2 + k) hp (by omega) (v := w64 (N (22 + 23 * p + (2 + k)) - v)) rfl
  rw [pk, qk] at R1
  have hne : 2 + (5 * per + t) ≠ 22 + 23 * p + (2 + k) := by omega
  have R2 := R1.purse (j := 5 * per + t) (by omega) (v := w64 (N (2 + (5 * per + t)) + v)) rfl
  have hf : ud (ud N (22 + 23 * p + (2 + k)) (w64 (N (22 + 23 * p + (2 + k)) - v))) (2 + (5 * per + t)) (w64 (N (2 + (5 * per + t)) + v)) = gOut N T p k per v := by
    funext j
    unfold gOut ud hc uc
    rw [et, Int.toNat_natCast]
    by_cases c1 : j = 2 + (5 * per + t)
    · rw [if_pos c1, if_neg (by omega), if_pos c1, c1]
    · rw [if_neg c1]
      by_cases c2 : j = 22 + 23 * p + (2 + k)
      · rw [if_pos c2, if_pos c2, c2]
      · rw [if_neg c2, if_neg c2, if_neg c1]
  rw [hf] at R2
  refine ⟨_, ?_, R2, (FrB_uI (by omega)).trans (FrB_uI (by omega)), fun a k => rfl⟩
  unfold g_X2_payOut g_X2_payOut_30
  rw [K_isSide]
  simp only [bindS, bI_0]
  rw [if_neg (by omega), if_pos (kdp hb hp), if_pos (by omega), if_pos (by omega), K_thingOn hb hp]
  simp only [bindS]
  rw [if_pos (kdb hb), zI_uI, if_neg (by omega), show (if (k : Int) = 0 then 0 else 1) = k by split <;> omega, K_told R hp hq (by omega), et, K_putIntoPurse hb hper ht5]
  simp only [bindS]
  rw [Int.toNat_natCast, h1, zI_uI, if_neg (by omega), R.2.1 _ (by omega)]
  have ea : w32 (w32 (N (22 + 23 * p + (2 + k))) - x) = w32 (w64 (N (22 + 23 * p + (2 + k)) - v)) := by
    rw [w32_w64]
    exact w32_sub_cg (w32_w32 _) hv
  have eb : w32 (w32 (N (2 + (5 * per + t))) + x) = w32 (w64 (N (2 + (5 * per + t)) + v)) := by
    rw [w32_w64]
    exact w32_add_cg (w32_w32 _) hv
  rw [ea, eb]
theorem R_goesOut (R : RepR M N T L th pe po) {p k per : Nat} (hp : p < 5) (hk : k < 2) (hper : per < 4) (ht : 0 ≤ T (5 * p + k) ∧ T (5 * p + k) < 5) (v : Int) : ∃ M', g_X12_goesOut p per k v M = some ((), M') ∧ RepR M' (gOut N T p k per v) T L th pe po ∧ Fr23 M M' := by
  obtain ⟨t, et⟩ := zR_nat ht.1
  have ht5 : t < 5 := by omega
  have R1 := R.cell (j := 22 + 23 * p + (2 + k)) (by omega) (w64 (N (22 + 23 * p + (2 + k)) + w64 (-v)))
  have R2 := R1.cell (j := 2 + (5 * per + t)) (by omega) (w64 (N (2 + (5 * per + t)) + v))
  have hf : ud (ud N (22 + 23 * p + (2 + k)) (w64 (N (22 + 23 * p + (2 + k)) + w64 (-v)))) (2 + (5 * per + t)) (w64 (N (2 + (5 * per + t)) + v)) = gOut N T p k per v := by
    funext j
    unfold gOut ud hc uc
    rw [et, Int.toNat_natCast, w64_sl]
    by_cases c1 : j = 2 + (5 * per + t)
    · rw [if_pos c1, if_neg (by omega), if_pos c1, c1]
    · rw [if_neg c1]
      by_cases c2 : j = 22 + 23 * p + (2 + k)
      · rw [if_pos c2, if_pos c2, c2]
      · rw [if_neg c2, if_neg c2, if_neg c1]
  rw [hf] at R2
  refine ⟨_, ?_, R2, Fr23_u.trans Fr23_u⟩
  unfold g_X12_goesOut
  rw [w32_id (x := 2 + (k : Int)) (by omega) (by omega), R_morePool hp (by omega) (by omega)]
  simp only [bindS]
  rw [R_thingOf hp (by omega) (by omega)]
  simp only [bindS]
  rw [zI_uL, R.2.1 _ (by omega), Int.toNat_natCast, et, R_morePurse hper ht5]
  simp only [bindS]
  rw [show (2 + (k : Int)).toNat = 2 + k by omega, R.2.2.1 _ (by omega), zL_uL, if_neg (by omega), R.2.2.1 _ (by omega)]
end GO
