/-! total, end, passes -/
theorem w64_al (x y : Int) : w64 (w64 x + y) = w64 (x + y) := by
  have := w64_d x
  rw [w64_iff]
  omega
theorem w32_al (x y : Int) : w32 (w32 x + y) = w32 (x + y) := by
  have := w32_d x
  rw [w32_iff]
  omega
theorem w32_ar (x y : Int) : w32 (x + w32 y) = w32 (x + y) := by
  have := w32_d y
  rw [w32_iff]
  omega
def tf1 (N : Nat → Int) (t i : Nat) : Int := N (2 + (5 * i + t))
def tf2 (N T : Nat → Int) (t q : Nat) : Int := (if T (5 * q) = t then N (22 + 23 * q + 2) else 0) + (if T (5 * q + 1) = t then N (22 + 23 * q + 3) else 0)
theorem K_heldOn {h : Nat} (kp : kd h = (3, 12)) (s : Int) (M : MZ) : g_X4_heldOn h s M = some (if s = 0 ∨ s = 1 then zI M (h + 1) s.toNat else 0, M) := by
  unfold g_X4_heldOn g_X4_heldOn_17
  rw [K_isSide]
  simp only [bindS, bI_0]
  by_cases c : s = 0 ∨ s = 1
  · rw [if_neg (fun q => q c), if_pos kp, if_pos (by omega), if_pos c]
  · rw [if_pos c, if_neg c]
section TOTAL
variable {M : MZ} {b : Nat} {kk : Bool} {N T : Nat → Int} {L : List (Nat → Int)} {th pe po : Int}
theorem K_all_pools (hb : bOK b) (R : Rep kk M b N T L th pe po) (W : WF N T L th pe po) (t : Nat) (a : Int) : ∀ (n i f : Nat), (i + n : Int) = po → n < f → g_X2_allOf_29 f b t (w32 (a + sm i (tf2 N T t))) i M = some (w32 (a + sm po.toNat (tf2 N T t)), M) := by
  have hz := W.1.r
  intro n
  induction n with
  | zero =>
    intro i f hi hf
    obtain ⟨f, rfl⟩ : ∃ g, f = g + 1 := ⟨f - 1, by omega⟩
    unfold g_X2_allOf_29 g_X2_allOf_29B g_X2_allOf_78
    rw [if_pos (kdb hb), if_pos (by rw [R.1.2.2.1]; omega), show po.toNat = i by omega]
  | succ n ih =>
    intro i f hi hf
    obtain ⟨f, rfl⟩ : ∃ g, f = g + 1 := ⟨f - 1, by omega⟩
    have e2 := ih (i + 1) f (by omega) (by omega)
    have hp : i < 5 := by omega
    have hq : (i : Int) < po := by omega
    have ht := (W.2.1 i hp hq).1
    have hne := ht.2.2.1
    unfold g_X2_allOf_29 g_X2_allOf_29B g_X2_allOf_72
    rw [if_pos (kdb hb), if_neg (by rw [R.1.2.2.1]; omega), if_neg (by omega), if_pos (by omega), Int.toNat_natCast, K_sideOf hb hp]
    simp only [bindS]
    rw [if_pos (by omega), K_heldOn (kdp hb hp)]
    simp only [bindS]
    rw [w32_id (x := (i : Int) + 1) (by omega) (by omega), K_told R hp hq (show 0 < 5 by omega), K_told R hp hq (show 1 < 5 by omega), Nat.add_zero]
    have es : sm (i + 1) (tf2 N T t) = sm i (tf2 N T t) + tf2 N T t i := rfl
    rw [es] at e2
    have ef : tf2 N T t i = (if T (5 * i) = t then N (22 + 23 * i + 2) else 0) + (if T (5 * i + 1) = t then N (22 + 23 * i + 3) else 0) := rfl
    rw [ef] at e2
    by_cases c0 : (t : Int) = T (5 * i)
    · rw [if_pos c0.symm, if_neg (by omega), Int.add_zero] at e2
      rw [if_pos c0, if_pos (Or.inl rfl), show (0 : Int).toNat = 0 from rfl, K_held R hp hq (show 0 < 2 by omega), w32_al, w32_ar, Int.add_assoc]
      exact e2
    · rw [if_neg (fun q => c0 q.symm), Int.zero_add] at e2
      rw [if_neg c0]
      by_cases c1 : (t : Int) = T (5 * i + 1)
      · rw [if_pos c1.symm] at e2
        rw [if_pos c1, if_pos (Or.inr rfl), show (1 : Int).toNat = 1 from rfl, K_held R hp hq (show 1 < 2 by omega), w32_al, w32_ar, Int.add_assoc]
        exact e2
      · rw [if_neg (fun q => c1 q.symm), Int.add_zero] at e2
        rw [if_neg c1, if_neg (by omega), Int.add_zero, w32_w32]
        exact e2
theorem K_all (hb : bOK b) (R : Rep kk M b N T L th pe po) (W : WF N T L th pe po) {t : Nat} (ht : t < 5) : ∀ (n i f : Nat), (i + n : Int) = pe → n < f → g_X2_allOf_4 f b t (w32 (sm i (tf1 N t))) i M = some (w32 (sm pe.toNat (tf1 N t) + sm po.toNat (tf2 N T t)), M) := by
  have hz := W.1.r
  intro n
  induction n with
  | zero =>
    intro i f hi hf
    obtain ⟨f, rfl⟩ : ∃ g, f = g + 1 := ⟨f - 1, by omega⟩
    unfold g_X2_allOf_4 g_X2_allOf_4B
    rw [if_pos (kdb hb), if_pos (by rw [R.1.2.1]; omega), show pe.toNat = i by omega]
    have e := K_all_pools hb R W t (sm i (tf1 N t)) po.toNat 0 100000 (by omega) (by omega)
    rw [show sm 0 (tf2 N T t) = 0 from rfl, Int.add_zero] at e
    exact e
  | succ n ih =>
    intro i f hi hf
    obtain ⟨f, rfl⟩ : ∃ g, f = g + 1 := ⟨f - 1, by omega⟩
    have e2 := ih (i + 1) f (by omega) (by omega)
    unfold g_X2_allOf_4 g_X2_allOf_4B g_X2_allOf_21
    rw [if_pos (kdb hb), if_neg (by rw [R.1.2.1]; omega), K_purseOf hb (by omega) ht]
    simp only [bindS]
    rw [R.2.1 _ (by omega), w32_al, w32_ar, w32_id (x := (i : Int) + 1) (by omega) (by omega)]
    exact e2
theorem R_tot_in (R : RepR M N T L th pe po) {q : Nat} (hq : q < 5) (t : Nat) (a : Int) (k43 : Int → Int → Int → MZ → Option (Int × MZ)) (f : Nat) : g_X12_total_55 k43 (f + 3) t (w64 a) q 0 M = k43 t (w64 (a + tf2 N T t q)) (w32 ((q : Int) + 1)) M := by
  have h1 : g_X12_thingOf q 0 M = some (T (5 * q), M) := by
    rw [R_thingOf hq (by omega) (by omega), R.2.1 _ (by omega)]; rfl
  have h2 : g_X12_thingOf q 1 M = some (T (5 * q + 1), M) := by
    rw [R_thingOf hq (by omega) (by omega), R.2.1 _ (by omega)]; rfl
  have h3 : g_X12_ofPool q 2 M = some (N (22 + 23 * q + 2), M) := R_pool R hq (by omega) (by omega)
  have h4 : g_X12_ofPool q 3 M = some (N (22 + 23 * q + 3), M) := R_pool R hq (by omega) (by omega)
  have e : ∀ (g : Nat) (v2 v5 : Int), g_X12_total_55 k43 (g + 1) t v2 q v5 M = g_X12_total_55B k43 (g_X12_total_55 k43 g) t v2 q v5 M := fun _ _ _ => rfl
  have s1 : ∀ v2 : Int, g_X12_total_55 k43 (f + 1 + 1 + 1) t v2 q 0 M = g_X12_total_55 k43 (f + 1 + 1) t (w64 (v2 + (if T (5 * q) = t then N (22 + 23 * q + 2) else 0))) q 1 M := by
    intro v2
    rw [e]
    unfold g_X12_total_55B g_X12_total_88 g_X12_total_90
    simp only [h1, bindS, show w32 (0 + 1) = 1 from rfl, show w32 (2 + 0) = 2 from rfl, h3, Int.reduceLE, reduceIte]
    split <;> rfl
  have s2 : ∀ v2 : Int, g_X12_total_55 k43 (f + 1 + 1) t v2 q 1 M = g_X12_total_55 k43 (f + 1) t (w64 (v2 + (if T (5 * q + 1) = t then N (22 + 23 * q + 3) else 0))) q 2 M := by
    intro v2
    rw [e]
    unfold g_X12_total_55B g_X12_total_88 g_X12_total_90
    simp only [h2, bindS, show w32 (1 + 1) = 2 from rfl, show w32 (2 + 1) = 3 from rfl, h4, Int.reduceLE, reduceIte]
    split <;> rfl
  have s3 : ∀ v2 : Int, g_X12_total_55 k43 (f + 1) t v2 q 2 M = k43 t v2 (w32 ((q : Int) + 1)) M := by
    intro v2
    rw [e]
    unfold g_X12_total_55B
    simp only [Int.reduceLE, reduceIte]
  rw [s1, s2, s3, w64_al, Int.add_assoc, w64_al]
  rfl
theorem R_tot_pools (R : RepR M N T L th pe po) (W : WF N T L th pe po) (t : Nat) (a : Int) : ∀ (n i f : Nat), (i + n : Int) = po → n < f → g_X12_total_43 f t (w64 (a + sm i (tf2 N T t))) i M = some (w32 (a + sm po.toNat (tf2 N T t)), M) := by
  have hz := W.1.r
  intro n
  induction n with
  | zero =>
    intro i f hi hf
    obtain ⟨f, rfl⟩ : ∃ g, f = g + 1 := ⟨f - 1, by omega⟩
    unfold g_X12_total_43 g_X12_total_43B
    rw [if_pos (by rw [R.1.2.2]; omega), show po.toNat = i by omega, w32_w64]
  | succ n ih =>
    intro i f hi hf
    obtain ⟨f, rfl⟩ : ∃ g, f = g + 1 := ⟨f - 1, by omega⟩
    have e2 := ih (i + 1) f (by omega) (by omega)
    unfold g_X12_total_43 g_X12_total_43B
    rw [if_neg (by rw [R.1.2.2]; omega)]
    have e := R_tot_in R (show i < 5 by omega) t (a + sm i (tf2 N T t)) (g_X12_total_43 f) 99997
    rw [w32_id (x := (i : Int) + 1) (by omega) (by omega), Int.add_assoc] at e
    exact e.trans e2
theorem R_tot (R : RepR M N T L th pe po) (W : WF N T L th pe po) {t : Nat} (ht : t < 5) : ∀ (n i f : Nat), (i + n : Int) = pe → n < f → g_X12_total_15 f t (w64 (sm i (tf1 N t))) i M = some (w32 (sm pe.toNat (tf1 N t) + sm po.toNat (tf2 N T t)), M) := by
  have hz := W.1.r
  intro n
  induction n with
  | zero =>
    intro i f hi hf
    obtain ⟨f, rfl⟩ : ∃ g, f = g + 1 := ⟨f - 1, by omega⟩
    unfold g_X12_total_15 g_X12_total_15B
    rw [if_pos (by rw [R.1.2.1]; omega), show pe.toNat = i by omega]
    have e := R_tot_pools R W t (sm i (tf1 N t)) po.toNat 0 100000 (by omega) (by omega)
    rw [show sm 0 (tf2 N T t) = 0 from rfl, Int.add_zero] at e
    exact e
  | succ n ih =>
    intro i f hi hf
    obtain ⟨f, rfl⟩ : ∃ g, f = g + 1 := ⟨f - 1, by omega⟩
    have e2 := ih (i + 1) f (by omega) (by omega)
    unfold g_X12_total_15 g_X12_total_15B g_X12_total_34
    rw [if_neg (by rw [R.1.2.1]; omega), R_inPurse (by omega) ht]
    simp only [bindS]
    rw [R.2.2.1 _ (by omega), w64_al, w32_id (x := (i : Int) + 1) (by omega) (by omega)]
    exact e2
end TOTAL
theorem q_total {M : MZ} (h : IV M) (t : Int) : ∃ r, g_X11_total t M = some (r, M) ∧ g_X12_total t M = some (r, M) := by
  obtain ⟨N, T, L, th, pe, po, R, RR, W, -⟩ := h
  have hz := W.1.r
  unfold g_X11_total g_X11_total_23 g_X12_total g_X2_allOf
  rw [K_hasThing b78, R_isThing, R.1.1, RR.1.1]
  simp only [bindS, bI_0]
  by_cases ht : 0 ≤ t ∧ t < th
  · obtain ⟨t, rfl⟩ := zR_nat ht.1
    rw [if_neg (fun q => q ht), if_neg (fun q => q ht)]
    have e1 := K_all b78 R W (t := t) (by omega) pe.toNat 0 100000 (by omega) (by omega)
    have e2 := R_tot RR W (t := t) (by omega) pe.toNat 0 100000 (by omega) (by omega)
    rw [show w32 (sm 0 (tf1 N t)) = 0 from rfl] at e1
    rw [show w64 (sm 0 (tf1 N t)) = 0 from rfl] at e2
    have e1' : g_X2_allOf_4 100000 78 t 0 0 M = _ := e1
    have e2' : g_X12_total_15 100000 t 0 0 M = _ := e2
    rw [e1', e2']
    simp only [bindS]
    exact ⟨_, rfl, rfl⟩
  · rw [if_pos ht, if_pos ht]
    exact ⟨_, rfl, rfl⟩
theorem ok_total (a : Int32) : SO INV (f_X11_total a) (f_X12_total a) := SO_q (fun _ => l_X11_total rfl rfl) (fun _ => l_X12_total rfl rfl) (fun _ h => q_total h _)
theorem sH_uI_of {M : MZ} {a k : Nat} {v : Int} {lo hi : Nat} (h : a < lo ∨ hi ≤ a) : ∀ x, lo ≤ x → x < hi → sameH M (uI M a k v) x := fun x h1 h2 => sameH_uI (by omega)
theorem q_end {M : MZ} (h : IV M) (p : Int) : ∃ r M1 M2, g_X11_end p M = some (r, M1) ∧ g_X12_end p M1 = some (r, M2) ∧ IV M2 := by
  have h0 := h
  obtain ⟨N, T, L, th, pe, po, R, RR, W, hM, hk, ht, hH, K, hA⟩ := h
  unfold g_X11_end g_X11_end_15 g_X12_end
  simp only [R_isIn, bindS, bI_0]
  by_cases c : 0 ≤ p ∧ p ≤ zI M 2 0
  · refine ⟨p, uI M 2 0 p, uI (uI M 2 0 p) 20 8 p, ?_, ?_, ?_⟩
    · rw [if_neg (by omega), if_pos (by omega)]
    · rw [if_neg (by rw [zI_uI, if_neg (by decide), hA.2.1]; exact fun q => q c)]
    · refine ⟨N, T, L, th, pe, po, ?_, ?_, W, hM, hk, ht, ?_, ?_, ?_⟩
      · exact (R.same (sH_uI_of (Or.inl (by decide)))).same (sH_uI_of (Or.inl (by decide)))
      · obtain ⟨⟨a0, a1, a2⟩, b⟩ := RR.same (M' := uI M 2 0 p) (sH_uI_of (Or.inl (by decide)))
        exact ⟨⟨a0, a1, a2⟩, b⟩
      · exact hH
      · exact K
      · refine ⟨?_, ?_, ?_⟩
        · have := hA.1
          show 0 ≤ p ∧ p ≤ 400
          omega
        · rfl
        · exact hA.2.2
  · refine ⟨-1, M, M, ?_, ?_, h0⟩
    · split
      · rfl
      · rw [if_neg (by omega)]
    · rw [if_pos (by rw [hA.2.1]; exact c)]
theorem ok_end (a : Int32) : SO INV (f_X11_end a) (f_X12_end a) := SO_of (IV := IV) (fun _ => l_X11_end rfl rfl) (fun _ => l_X12_end rfl rfl) (fun _ h => q_end h _)
