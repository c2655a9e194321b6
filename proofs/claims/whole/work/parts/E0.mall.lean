/-! clauses, and the whole text of a market: both side by side -/
theorem wd12 : (words0.getD 12 0).toInt = 187429700 ∧ (words0.getD 13 0).toInt = 326280 ∧ (words0.getD 14 0).toInt = 8930039 := by decide +kernel
theorem bnd01 {o : Option (Int × MZ)} {fl : Int} {M : MZ} (h : o = some (fl, M)) (hf : fl = 0 ∨ fl = 1) : (o.bind fun q => if q.1 = 0 ∨ q.1 = 1 then some (q.1, q.2) else none) = some (fl, M) := by
  subst h
  simp only [bindS]
  rw [if_pos hf]
theorem K_blameW {k : Int} {s : Nat} {M : MZ} (h : zI M 2 3 = s) : ((g_X9_blameWord k M).bind fun q => if q.1 = 0 ∨ q.1 = 1 then some (q.1, q.2) else none) = some (0, uI M 2 1 (fz k s)) := by
  refine bnd01 (bnd01 ?_ (Or.inl rfl)) (Or.inl rfl)
  unfold g_X9_blame
  rw [h]
  rfl
theorem ClOK.f {n : Nat} {B : Nat → Int} {c : Nat} {fl : Int} {Mc Mr : MZ} (h : ClOK n B c fl Mc Mr) : fl = 0 ∨ fl = 1 := by
  rcases h with h | h
  · exact Or.inr h.1
  · exact Or.inl h.1
theorem K_81 {c : Nat} {v2 v3 x : Int} {M : MZ} : g_X3_readClause_81 c v2 v3 x M = if (30 : Int) ≤ c then g_X3_readClause_107 M else if v2 = (if (c : Int) = 0 then 1 else 0) then (if x = 0 then (if v2 = 0 then (if v3 = 0 then ((g_X3_readPurse M).bind fun q137 => (g_X3_readClause_140 q137.1 q137.2)) else ((g_X3_readPool M).bind fun q130 => (g_X3_readClause_140 q130.1 q130.2))) else ((g_X3_readSizes M).bind fun q121 => (if (q121.1 = 0 ∨ q121.1 = 1) then (some (q121.1, q121.2)) else none))) else g_X3_readClause_107 M) else g_X3_readClause_107 M := by
  unfold g_X3_readClause_81 g_X3_readClause_99
  by_cases h : (30 : Int) ≤ c
  · rw [if_pos h, if_pos h]
  · rw [if_neg h, if_neg h]
    by_cases h0 : (c : Int) = 0
    · rw [if_pos h0, if_pos h0]
    · rw [if_neg h0, if_neg h0]
theorem K_61 {c : Nat} {v2 v3 : Int} {M : MZ} : g_X3_readClause_61 c v2 v3 M = if v3 = 0 then g_X3_readClause_81 c v2 v3 0 M else if zI M 143 2 < 5 then g_X3_readClause_81 c v2 v3 0 M else g_X3_readClause_81 c v2 v3 1 M := rfl
section MA
variable {n : Nat} {B : Nat → Int}
theorem sim_clause (b : BO n B) {i c po : Nat} (hc : c ≤ 30) {Mc Mr : MZ} (hS : SR n B i Mc Mr) (hm : MS Mc Mr c po) : ∃ (fl : Int) (Mc' Mr' : MZ), g_X3_readClause c Mc = some (fl, Mc') ∧ g_X12_readsClause c Mr = some (fl, Mr') ∧ CM Mc Mc' ∧ RM Mr Mr' ∧ ClOK n B (c + 1) fl Mc' Mr' ∧ (c = 30 → fl = 0) := by
  obtain ⟨s, m, w, Mc1, Mr1, a1, a2, a3, a4, a5, a6, a7, a8, a9, a10, a11, a12⟩ := sim_word b hS
  have hm1 := hm.rd a3 a4
  have T1 := hS.1.mv a3
  have R1 := hS.2.1.mv a4
  have K1 := hm1.2.2.2.2.2.2
  obtain ⟨d12, d13, d14⟩ := wd12
  have k12 : zL Mr1 20 12 = 187429700 := by rw [K1.2.1 12 (by omega) (by omega)]; exact d12
  have k13 : zL Mr1 20 13 = 326280 := by rw [K1.2.1 13 (by omega) (by omega)]; exact d13
  have k14 : zL Mr1 20 14 = 8930039 := by rw [K1.2.1 14 (by omega) (by omega)]; exact d14
  obtain ⟨fm, m1, m2⟩ := a11 Mc1 T1 a7 a8 0 (by omega)
  obtain ⟨fp, p1, p2⟩ := a11 Mc1 T1 a7 a8 1 (by omega)
  obtain ⟨fu, u1, u2⟩ := a11 Mc1 T1 a7 a8 2 (by omega)
  have m1' : g_X9_wordIs 301 Mc1 = some (fm, Mc1) := m1
  have p1' : g_X9_wordIs 302 Mc1 = some (fp, Mc1) := p1
  have u1' : g_X9_wordIs 303 Mc1 = some (fu, Mc1) := u1
  have m2' : fm = 1 ∧ w = 187429700 ∨ fm = 0 ∧ w ≠ 187429700 := by rw [← d12]; exact m2
  have p2' : fp = 1 ∧ w = 326280 ∨ fp = 0 ∧ w ≠ 326280 := by rw [← d13]; exact p2
  have u2' : fu = 1 ∧ w = 8930039 ∨ fu = 0 ∧ w ≠ 8930039 := by rw [← d14]; exact u2
  -- faults at the word
  have bad : ∀ (k : Int) {A C : Option (Int × MZ)}, A = some (0, uI Mc1 2 1 (fz k s)) → C = some (0, uI Mr1 20 10 (fz k s)) → ∃ (fl : Int) (Mc' Mr' : MZ), A = some (fl, Mc') ∧ C = some (fl, Mr') ∧ CM Mc Mc' ∧ RM Mr Mr' ∧ ClOK n B (c + 1) fl Mc' Mr' ∧ (c = 30 → fl = 0) := fun k A C e1 e2 => ⟨0, _, _, e1, e2, (a3.trans (CF_u (by omega))).cm, (a4.trans (RF_u (by omega))).rm, Or.inr ⟨rfl, by rw [zI_at, zI_at]⟩, fun _ => rfl⟩
  have k107 : g_X3_readClause_107 Mc1 = some (0, uI Mc1 2 1 (fz 2 s)) := K_blameW a7
  have rfb : ∀ k : Int, ((g_X12_fails k s Mr1).bind fun q => if q.1 = 0 ∨ q.1 = 1 then some (q.1, q.2) else none) = some (0, uI Mr1 20 10 (fz k s)) := fun k => R_failb k s Mr1
  have hS2 : ∀ M3, RF Mr1 M3 → zI M3 20 9 = ((s + m : Nat) : Int) → SR n B (s + m) Mc1 M3 := fun M3 f e => ⟨T1, R1.mv f, a6, e, a9⟩
  obtain ⟨M3, q1, q2, q3⟩ := a12 Mr1 R1 a5
  have hm3 := hm1.rd (CF.rfl (M := Mc1)) q2
  unfold g_X3_readClause g_X12_readsClause
  rw [a1, a2]
  simp only [bindS]
  rw [a5]
  by_cases c0 : m = 0
  · obtain ⟨z1, z2⟩ := a10 c0
    rw [if_neg (show ¬ 0 < m by omega), if_pos rfl]
    unfold g_X12_readsClause_11
    rw [k12, k13, k14, if_neg (by omega), if_neg (by omega), if_neg (by omega), rfb]
    exact ⟨0, _, _, rfl, rfl, a3.cm, (a4.trans (RF_u (by omega))).rm, Or.inr ⟨rfl, by rw [zI_at, z1]⟩, fun _ => rfl⟩
  rw [if_pos (show 0 < m by omega), if_neg (show ¬ (1 : Int) = 0 by omega), m1']
  simp only [bindS]
  rw [p1']
  simp only [bindS]
  rcases m2' with ⟨rfl, ew⟩ | ⟨rfl, nm⟩
  · -- the word market
    have ep : fp = 0 := by omega
    subst ep
    rw [if_neg (show ¬ (1 : Int) = 0 by omega), K_61, if_pos (show (0 : Int) = 0 from rfl), K_81]
    unfold g_X12_readsClause_11 g_X12_readsClause_46
    rw [k12, if_pos ew]
    by_cases c30 : c = 30
    · rw [if_pos (show (30 : Int) ≤ c by omega), if_pos (show (c : Int) = 30 by omega), k107, rfb]
      exact bad 2 rfl rfl
    rw [if_neg (show ¬ (30 : Int) ≤ c by omega), if_neg (show ¬ (c : Int) = 30 by omega), if_pos ew]
    unfold g_X12_readsMarket
    by_cases cz : c = 0
    · have h24 := (hm1.2.2.1 cz).1
      rw [if_pos (show (c : Int) = 0 by omega), if_pos (show (1 : Int) = 1 from rfl), if_pos (show (0 : Int) = 0 from rfl), if_neg (show ¬ (1 : Int) = 0 by omega), h24, if_pos (Int.le_refl _), q1]
      simp only [bindS]
      subst cz
      obtain ⟨fl, Mc', Mr', s1, s2, s3, s4, s5⟩ := sim_sizes b (hS2 M3 q2 q3) hm3
      rw [s2, bnd01 s1 s5.f]
      refine ⟨fl, Mc', Mr', rfl, ?_, a3.cm.trans s3, (a4.rm.trans q2.rm).trans s4, s5, fun q => absurd q (by omega)⟩
      exact bnd01 rfl s5.f
    · have h24 := (hm1.2.2.2.1 (by omega)).2.1
      rw [if_neg (show ¬ (c : Int) = 0 by omega), if_neg (show ¬ (1 : Int) = 0 by omega), k107, if_neg (show ¬ zI Mr1 20 24 ≤ 0 by omega)]
      refine bad 2 rfl ?_
      exact bnd01 (rfb 2) (Or.inl rfl)
  · rw [if_pos (show (0 : Int) = 0 from rfl)]
    rcases p2' with ⟨rfl, ew⟩ | ⟨rfl, np⟩
    · -- the word pool
      obtain ⟨o1, o2, o3⟩ := hm1.1
      rw [if_neg (show ¬ (1 : Int) = 0 by omega), K_61, if_neg (show ¬ (1 : Int) = 0 by omega), o1]
      unfold g_X12_readsClause_11 g_X12_readsClause_46
      rw [k12, k13, if_neg nm, if_pos ew]
      by_cases c30 : c = 30
      · rw [K_81, K_81, if_pos (show (30 : Int) ≤ c by omega), if_pos (show (30 : Int) ≤ c by omega), if_pos (show (c : Int) = 30 by omega), k107, rfb]
        refine bad 2 ?_ rfl
        split <;> rfl
      rw [if_neg (show ¬ (c : Int) = 30 by omega), if_neg nm]
      by_cases cz : c = 0
      · have h24 := (hm1.2.2.1 cz).1
        have h81 : ∀ x : Int, g_X3_readClause_81 c 0 1 x Mc1 = some (0, uI Mc1 2 1 (fz 2 s)) := fun x => by
          rw [K_81, if_neg (show ¬ (30 : Int) ≤ c by omega), if_pos (show (c : Int) = 0 by omega), if_neg (show ¬ (0 : Int) = 1 by omega), k107]
        rw [h81, h81, h24, if_pos (show (0 : Int) = 0 from rfl), rfb]
        refine bad 2 ?_ rfl
        split <;> rfl
      · have h24 := (hm1.2.2.2.1 (by omega)).2.1
        rw [if_neg (show ¬ zI Mr1 20 24 = 0 by omega), if_pos ew]
        unfold g_X12_readsPool
        rw [o2]
        by_cases c5 : po = 5
        · rw [if_neg (show ¬ (po : Int) < 5 by omega), K_81, if_neg (show ¬ (30 : Int) ≤ c by omega), if_neg (show ¬ (c : Int) = 0 by omega), if_pos (show (0 : Int) = 0 from rfl), if_neg (show ¬ (1 : Int) = 0 by omega), k107, if_pos (show (po : Int) = 5 by omega), rfb]
          refine bad 2 rfl ?_
          exact bnd01 rfl (Or.inl rfl)
        · rw [if_pos (show (po : Int) < 5 by omega), K_81, if_neg (show ¬ (30 : Int) ≤ c by omega), if_neg (show ¬ (c : Int) = 0 by omega), if_pos (show (0 : Int) = 0 from rfl), if_pos (show (0 : Int) = 0 from rfl), if_pos (show (0 : Int) = 0 from rfl), if_neg (show ¬ (1 : Int) = 0 by omega), if_neg (show ¬ (po : Int) = 5 by omega), q1]
          simp only [bindS]
          obtain ⟨fl, Mc', Mr', s1, s2, s3, s4, s5⟩ := sim_pool b (by omega) (by omega) (hS2 M3 q2 q3) hm3
          rw [s1, s2]
          simp only [bindS]
          unfold g_X3_readClause_140 g_X12_readsClause_113
          rw [if_pos s5.f, if_pos s5.f]
          exact ⟨fl, Mc', Mr', rfl, rfl, a3.cm.trans s3, (a4.rm.trans q2.rm).trans s4, s5, fun q => absurd q c30⟩
    · rw [if_pos (show (0 : Int) = 0 from rfl), u1']
      simp only [bindS]
      unfold g_X12_readsClause_11 g_X12_readsClause_46
      rw [k12, k13, k14, if_neg nm, if_neg np]
      rcases u2' with ⟨rfl, ew⟩ | ⟨rfl, nu⟩
      · -- the word purse
        rw [if_neg (show ¬ (1 : Int) = 0 by omega), if_pos ew, K_61, if_pos (show (0 : Int) = 0 from rfl), K_81]
        by_cases c30 : c = 30
        · rw [if_pos (show (30 : Int) ≤ c by omega), if_pos (show (c : Int) = 30 by omega), k107, rfb]
          exact bad 2 rfl rfl
        rw [if_neg (show ¬ (30 : Int) ≤ c by omega), if_neg (show ¬ (c : Int) = 30 by omega), if_neg nm, if_neg np]
        by_cases cz : c = 0
        · have h24 := (hm1.2.2.1 cz).1
          rw [if_pos (show (c : Int) = 0 by omega), if_neg (show ¬ (0 : Int) = 1 by omega), k107, h24, if_pos (show (0 : Int) = 0 from rfl), rfb]
          exact bad 2 rfl rfl
        · have h24 := (hm1.2.2.2.1 (by omega)).2.1
          rw [if_neg (show ¬ (c : Int) = 0 by omega), if_pos (show (0 : Int) = 0 from rfl), if_pos (show (0 : Int) = 0 from rfl), if_pos (show (0 : Int) = 0 from rfl), if_pos (show (0 : Int) = 0 from rfl), if_neg (show ¬ zI Mr1 20 24 = 0 by omega)]
          unfold g_X12_readsPurse
          rw [q1]
          simp only [bindS]
          obtain ⟨fl, Mc', Mr', s1, s2, s3, s4, s5⟩ := sim_purse b (by omega) (hS2 M3 q2 q3) hm3
          rw [s1, s2]
          simp only [bindS]
          unfold g_X3_readClause_140 g_X12_readsClause_113
          rw [if_pos s5.f, if_pos s5.f]
          exact ⟨fl, Mc', Mr', rfl, rfl, a3.cm.trans s3, (a4.rm.trans q2.rm).trans s4, s5, fun q => absurd q c30⟩
      · rw [if_pos (show (0 : Int) = 0 from rfl), if_neg nu, rfb, K_blameW a7]
        exact bad 0 rfl rfl
theorem sim_mread (b : BO n B) : ∀ (d c i po f1 f2 : Nat) (Mc Mr : MZ), c + d = 30 → d < f1 → d < f2 → SR n B i Mc Mr → MS Mc Mr c po → ∃ (fl : Int) (Mc' Mr' : MZ), g_X3_read_16 f1 c Mc = some (fl, Mc') ∧ g_X12_readsAll_38 f2 c Mr = some (fl, Mr') ∧ CM Mc Mc' ∧ RM Mr Mr' ∧ ((fl = 1 ∧ ∃ c' po', 0 < c' ∧ MS Mc' Mr' c' po') ∨ (fl = 0 ∧ zI Mr' 20 10 = zI Mc' 2 1)) := by
  intro d
  induction d with
  | zero =>
    intro c i po f1 f2 Mc Mr hc h1 h2 hS hm
    obtain ⟨f1, rfl⟩ : ∃ g, f1 = g + 1 := ⟨f1 - 1, by omega⟩
    obtain ⟨f2, rfl⟩ : ∃ g, f2 = g + 1 := ⟨f2 - 1, by omega⟩
    have e1 : g_X3_read_16 (f1 + 1) c Mc = g_X3_read_16B (g_X3_read_16 f1) c Mc := rfl
    have e2 : g_X12_readsAll_38 (f2 + 1) c Mr = g_X12_readsAll_38B (g_X12_readsAll_38 f2) c Mr := rfl
    obtain ⟨fl, Mc', Mr', a1, a2, a3, a4, a5, a6⟩ := sim_clause b (by omega) hS hm
    have e0 := a6 (by omega)
    subst e0
    rw [e1, e2]
    unfold g_X3_read_16B g_X12_readsAll_38B
    rw [if_neg (by omega), a1, a2]
    simp only [bindS]
    rw [if_pos trivial, if_pos trivial]
    refine ⟨0, Mc', Mr', rfl, rfl, a3, a4, Or.inr ⟨rfl, ?_⟩⟩
    rcases a5 with q | q
    · exact absurd q.1 (by omega)
    · exact q.2
  | succ d ih =>
    intro c i po f1 f2 Mc Mr hc h1 h2 hS hm
    obtain ⟨f1, rfl⟩ : ∃ g, f1 = g + 1 := ⟨f1 - 1, by omega⟩
    obtain ⟨f2, rfl⟩ : ∃ g, f2 = g + 1 := ⟨f2 - 1, by omega⟩
    have e1 : g_X3_read_16 (f1 + 1) c Mc = g_X3_read_16B (g_X3_read_16 f1) c Mc := rfl
    have e2 : g_X12_readsAll_38 (f2 + 1) c Mr = g_X12_readsAll_38B (g_X12_readsAll_38 f2) c Mr := rfl
    obtain ⟨fl, Mc', Mr', a1, a2, a3, a4, a5, a6⟩ := sim_clause b (by omega) hS hm
    rw [e1, e2]
    unfold g_X3_read_16B g_X12_readsAll_38B
    rw [if_neg (by omega), a1, a2]
    simp only [bindS]
    rcases a5 with ⟨rfl, ⟨j, hj⟩, po', hm'⟩ | ⟨rfl, ef⟩
    · rw [if_neg (show ¬ (1 : Int) = 0 by omega), if_neg (show ¬ (1 : Int) = 0 by omega)]
      obtain ⟨s, Mc1, Mr1, b1, b2, b3, b4, b5, b6, b7, b8, b9⟩ := sim_peek b hj
      have hm1 := hm'.rd b4 b5
      have b3' := b3
      obtain ⟨s1, s2, s3, s4, s5⟩ := b3'
      have k1 := K_peek_stay b s1 s3 s5 b9
      have k2 := R_next_stay b s2 s4 b9
      unfold g_X12_readsAll_51 g_X12_takesSign g_X9_accept g_X9_blameHere g_X12_readsAll_80 g_X12_readsAll_85
      rw [b1, b2]
      simp only [bindS]
      rw [k1]
      simp only [bindS]
      by_cases c59 : B s = 59
      · have hs : s < n := by
          rcases Nat.lt_or_ge s n with q | q
          · exact q
          · have := b.2 s q
            omega
        have hb := b.1
        rw [if_neg (by omega), if_pos c59, if_pos c59]
        simp only [bindS]
        rw [if_neg (show ¬ (1 : Int) = 0 by omega), if_neg (show ¬ (1 : Int) = 0 by omega), s3, s4, w32_id (x := (s : Int) + 1) (by omega) (by omega), w32_id (x := (c : Int) + 1) (by omega) (by omega), show (c : Int) + 1 = ((c + 1 : Nat) : Int) by omega]
        have cf : CF Mc1 (uI Mc1 2 5 ((s : Int) + 1)) := CF_u (by omega)
        have rf : RF Mr1 (uI Mr1 20 9 ((s : Int) + 1)) := RF_u (by omega)
        obtain ⟨fl, Mc2, Mr2, c1, c2, c3, c4, c5⟩ := ih (c + 1) (s + 1) po' f1 f2 (uI Mc1 2 5 ((s : Int) + 1)) (uI Mr1 20 9 ((s : Int) + 1)) (by omega) (by omega) (by omega) ⟨s1.mv cf, s2.mv rf, zI_at _ _ _ _, zI_at _ _ _ _, by omega⟩ (hm1.rd cf rf)
        exact ⟨fl, Mc2, Mr2, c1, c2, (a3.trans (b4.trans cf).cm).trans c3, (a4.trans (b5.trans rf).rm).trans c4, c5⟩
      · rw [if_neg c59, if_neg c59]
        simp only [bindS]
        rw [if_pos trivial, if_pos trivial, k2]
        simp only [bindS]
        by_cases cn : B s = -1
        · rw [if_pos cn, if_pos cn, if_pos (Or.inr trivial)]
          exact ⟨1, Mc1, Mr1, rfl, rfl, a3.trans b4.cm, a4.trans b5.rm, Or.inl ⟨rfl, c + 1, po', by omega, hm1⟩⟩
        · rw [if_neg cn, if_neg cn, k1]
          simp only [bindS]
          unfold g_X9_blame g_X12_fails
          simp only [bindS]
          rw [s3, s4]
          refine ⟨0, uI Mc1 2 1 (fz 0 s), uI Mr1 20 10 (fz 0 s), ?_, ?_, (a3.trans b4.cm).trans (CF_u (by omega)).cm, (a4.trans b5.rm).trans (RF_u (by omega)).rm, Or.inr ⟨rfl, by rw [zI_at, zI_at]⟩⟩
          · unfold fz
            simp
          · unfold fz
            simp
    · rw [if_pos rfl, if_pos rfl]
      exact ⟨0, Mc', Mr', rfl, rfl, a3, a4, Or.inr ⟨rfl, ef⟩⟩
end MA
