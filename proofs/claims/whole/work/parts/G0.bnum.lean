/-! the text of a bundle: numbers, side by side -/
def CH (h : Nat) (M M' : MZ) : Prop := (∀ x, x ≠ 2 → x ≠ h → sameH M M' x) ∧ zI M' 2 0 = zI M 2 0 ∧ (∀ k, k < 2 ∨ k = 9 → zI M' h k = zI M h k)
def RH (i : Nat) (M M' : MZ) : Prop := (∀ x, x ≠ 20 → x ≠ 30 → x ≠ 31 → sameH M M' x) ∧ (∀ k, k ≠ 9 → k ≠ 10 → k ≠ 11 → zI M' 20 k = zI M 20 k) ∧ (∀ k, zL M' 20 k = zL M 20 k) ∧ (∀ k, ¬ (4 * i ≤ k ∧ k < 4 * i + 4) → zI M' 30 k = zI M 30 k) ∧ (∀ k, k ≠ i → zI M' 31 k = zI M 31 k)
theorem CH.trans {h : Nat} {M M' M'' : MZ} (a : CH h M M') (b : CH h M' M'') : CH h M M'' := ⟨fun x h1 h2 => (a.1 x h1 h2).trans (b.1 x h1 h2), b.2.1.trans a.2.1, fun k hk => (b.2.2 k hk).trans (a.2.2 k hk)⟩
theorem RH.trans {i : Nat} {M M' M'' : MZ} (a : RH i M M') (b : RH i M' M'') : RH i M M'' := ⟨fun x h1 h2 h3 => (a.1 x h1 h2 h3).trans (b.1 x h1 h2 h3), fun k h1 h2 h3 => (b.2.1 k h1 h2 h3).trans (a.2.1 k h1 h2 h3), fun k => (b.2.2.1 k).trans (a.2.2.1 k), fun k hk => (b.2.2.2.1 k hk).trans (a.2.2.2.1 k hk), fun k hk => (b.2.2.2.2 k hk).trans (a.2.2.2.2 k hk)⟩
theorem CF.ch {h : Nat} (hh : 38 ≤ h) {M M' : MZ} (a : CF M M') : CH h M M' := ⟨fun x h1 _ => a.1 x h1, a.2, fun k _ => (a.1 h (by omega) k).1⟩
theorem RF.rh {M M' : MZ} (a : RF M M') (i : Nat) : RH i M M' := ⟨fun x h1 _ _ => a.1 x h1, a.2.1, a.2.2, fun k _ => (a.1 30 (by omega) k).1, fun k _ => (a.1 31 (by omega) k).1⟩
theorem CH_u {h k : Nat} (hh : 38 ≤ h) (hk : 2 ≤ k ∧ k < 9) {M : MZ} {v : Int} : CH h M (uI M h k v) := ⟨fun x _ h2 => sameH_uI h2, by rw [zI_uI, if_neg (by omega)], fun j hj => by rw [zI_uI, if_neg (by omega)]⟩
theorem RH_30 {i c : Nat} (hc : 4 * i ≤ c ∧ c < 4 * i + 4) {M : MZ} {v : Int} : RH i M (uI M 30 c v) := ⟨fun x _ h2 _ => sameH_uI h2, fun k _ _ _ => by rw [zI_uI, if_neg (by omega)], fun _ => rfl, fun k hk => by rw [zI_uI, if_neg (by omega)], fun k _ => by rw [zI_uI, if_neg (by omega)]⟩
theorem RH_31 {i : Nat} {M : MZ} {v : Int} : RH i M (uI M 31 i v) := ⟨fun x _ _ h3 => sameH_uI h3, fun k _ _ _ => by rw [zI_uI, if_neg (by omega)], fun _ => rfl, fun k _ => by rw [zI_uI, if_neg (by omega)], fun k hk => by rw [zI_uI, if_neg (fun q => hk q.2)]⟩
section BN
variable {n : Nat} {B : Nat → Int}
theorem SR.ch {h i j : Nat} (hh : 38 ≤ h) {Mc Mr Mc' Mr' : MZ} (s : SR n B j Mc Mr) (a : CH h Mc Mc') (c : RH i Mr Mr') (h5 : zI Mc' 2 5 = zI Mc 2 5) (h9 : zI Mr' 20 9 = zI Mr 20 9) : SR n B j Mc' Mr' := by
  obtain ⟨s1, s2, s3, s4, s5⟩ := s
  refine ⟨⟨by rw [a.2.1]; exact s1.1, fun k hk => by rw [(a.1 3 (by omega) (by omega) k).1]; exact s1.2 k hk⟩, ⟨by rw [c.2.1 8 (by omega) (by omega) (by omega)]; exact s2.1, fun k hk => by rw [(c.1 25 (by omega) (by omega) (by omega) k).1]; exact s2.2 k hk⟩, by rw [h5]; exact s3, by rw [h9]; exact s4, s5⟩
/-- a number is read and kept -/
theorem sim_w (b : BO n B) {j h i f c : Nat} (hh : 38 ≤ h) (hf : 2 ≤ f ∧ f < 9) (hc : 4 * i ≤ c ∧ c < 4 * i + 4) {Mc Mr : MZ} (s : SR n B j Mc Mr) (lo hi : Int) : ∃ (fl : Int) (Mc1 Mr1 : MZ), g_X9_readNumber lo hi Mc = some (fl, Mc1) ∧ g_X12_reads lo hi Mr = some (fl, Mr1) ∧ CF Mc Mc1 ∧ RF Mr Mr1 ∧ ((fl = 1 ∧ ∃ v, zI Mc1 2 2 = v ∧ zI Mr1 20 11 = v ∧ (lo ≤ v ∧ v ≤ hi) ∧ ∃ j', SR n B j' (uI Mc1 h f v) (uI Mr1 30 c v)) ∨ (fl = 0 ∧ zI Mr1 20 10 = zI Mc1 2 1)) := by
  obtain ⟨fl, Mc1, Mr1, a1, a2, a3, a4, a5⟩ := sim_number b s lo hi
  refine ⟨fl, Mc1, Mr1, a1, a2, a3, a4, ?_⟩
  rcases a5 with ⟨e, ⟨j', s'⟩, e2, e3, e4⟩ | a5
  · exact Or.inl ⟨e, zI Mc1 2 2, rfl, e2, ⟨e3, e4⟩, j', s'.ch hh (CH_u hh hf) (RH_30 (i := i) hc) (by rw [zI_uI, if_neg (by omega)]) (by rw [zI_uI, if_neg (by omega)])⟩
  · exact Or.inr a5
theorem kdt : ∀ i, i < 40 → kd (38 + i) = (7, 10) := by decide +kernel
theorem R_rn {i many k : Nat} (hi : i < 40) (hk : k < many) (hm : many ≤ 3) (f : Nat) (h0 h1 h2 : Int) (M : MZ) : g_X12_readsNumbers_3 (f + 1) i many h0 h1 h2 k M = ((g_X12_reads 0 (if k = 0 then h0 else if k = 1 then h1 else h2) M).bind fun q => if q.1 = 0 then some (0, q.2) else g_X12_readsNumbers_3 f i many h0 h1 h2 ((k + 1 : Nat) : Int) (uI q.2 30 (4 * i + k) (zI q.2 20 11))) := by
  have e : g_X12_readsNumbers_3 (f + 1) i many h0 h1 h2 k M = g_X12_readsNumbers_3B (g_X12_readsNumbers_3 f) i many h0 h1 h2 k M := rfl
  have hb : (0 : Int) ≤ ((4 * i + k : Nat) : Int) ∧ ((4 * i + k : Nat) : Int) < ((160 : Nat) : Int) := by omega
  have go : ∀ s0 : Int, g_X12_readsNumbers_33 (g_X12_readsNumbers_3 f) i many h0 h1 h2 k s0 0 M = ((g_X12_reads 0 s0 M).bind fun q => if q.1 = 0 then some (0, q.2) else g_X12_readsNumbers_3 f i many h0 h1 h2 ((k + 1 : Nat) : Int) (uI q.2 30 (4 * i + k) (zI q.2 20 11))) := by
    intro s0
    unfold g_X12_readsNumbers_33
    rw [w32_id (x := 4 * (i : Int)) (by omega) (by omega), w32_id (x := 4 * (i : Int) + (k : Int)) (by omega) (by omega), w32_id (x := (k : Int) + 1) (by omega) (by omega), show 4 * (i : Int) + (k : Int) = ((4 * i + k : Nat) : Int) by omega, show (k : Int) + 1 = ((k + 1 : Nat) : Int) by omega]
    simp only [if_pos hb, Int.toNat_natCast]
  rw [e]
  unfold g_X12_readsNumbers_3B
  rw [if_neg (show ¬ (many : Int) ≤ (k : Int) by omega)]
  by_cases c0 : k = 0
  · rw [if_pos (show (k : Int) = 0 by omega), go, if_pos c0]
  · rw [if_neg (show ¬ (k : Int) = 0 by omega), if_neg c0]
    by_cases c1 : k = 1
    · rw [if_pos (show (k : Int) = 1 by omega), go, if_pos c1]
    · rw [if_neg (show ¬ (k : Int) = 1 by omega), go, if_neg c1]
theorem R_rn_end {i many : Nat} (f : Nat) (h0 h1 h2 : Int) (M : MZ) : g_X12_readsNumbers_3 (f + 1) i many h0 h1 h2 many M = some (1, M) := by
  have e : g_X12_readsNumbers_3 (f + 1) i many h0 h1 h2 many M = g_X12_readsNumbers_3B (g_X12_readsNumbers_3 f) i many h0 h1 h2 many M := rfl
  rw [e]
  unfold g_X12_readsNumbers_3B
  rw [if_pos (Int.le_refl _)]
/-- how such a piece ends -/
def Pc (n : Nat) (B : Nat → Int) (h i : Nat) (fl : Int) (Mc Mr Mc' Mr' : MZ) (P : Prop) : Prop := CH h Mc Mc' ∧ RH i Mr Mr' ∧ ((fl = 1 ∧ (∃ j, SR n B j Mc' Mr') ∧ P) ∨ (fl = 0 ∧ zI Mr' 20 10 = zI Mc' 2 1))
theorem Pc.f {h i : Nat} {fl : Int} {Mc Mr Mc' Mr' : MZ} {P : Prop} (q : Pc n B h i fl Mc Mr Mc' Mr' P) : fl = 0 ∨ fl = 1 := by
  rcases q.2.2 with e | e
  · exact Or.inr e.1
  · exact Or.inl e.1
theorem sim_ps (b : BO n B) {j i : Nat} (hi : i < 40) {Mc Mr : MZ} (s : SR n B j Mc Mr) : ∃ (fl : Int) (Mc' Mr' : MZ), g_X6_readPoolAndSide (38 + i) Mc = some (fl, Mc') ∧ g_X12_readsNumbers i 2 4 1 0 Mr = some (fl, Mr') ∧ Pc n B (38 + i) i fl Mc Mr Mc' Mr' (zI Mc' (38 + i) 2 = zI Mr' 30 (4 * i) ∧ (0 ≤ zI Mr' 30 (4 * i) ∧ zI Mr' 30 (4 * i) ≤ 4) ∧ zI Mc' (38 + i) 3 = zI Mr' 30 (4 * i + 1) ∧ (0 ≤ zI Mr' 30 (4 * i + 1) ∧ zI Mr' 30 (4 * i + 1) ≤ 1)) := by
  have hk := kdt i hi
  have r0 : g_X12_readsNumbers i 2 4 1 0 Mr = _ := R_rn (i := i) (many := 2) (k := 0) hi (by omega) (by omega) 99999 4 1 0 Mr
  unfold g_X6_readPoolAndSide
  rw [r0, if_pos rfl]
  obtain ⟨f1, Mc1, Mr1, a1, a2, a3, a4, a5⟩ := sim_w b (h := 38 + i) (i := i) (f := 2) (c := 4 * i + 0) (by omega) (by omega) (by omega) s 0 4
  rw [a1, a2]
  simp only [bindS]
  rcases a5 with ⟨e1, v1, x1, x2, x3, j1, s1⟩ | ⟨e1, x1⟩
  case inr =>
    rw [e1, if_pos rfl, if_pos rfl]
    exact ⟨0, Mc1, Mr1, rfl, rfl, a3.ch (by omega), a4.rh i, Or.inr ⟨rfl, x1⟩⟩
  case inl =>
    rw [e1, if_neg (by omega), if_pos hk, if_neg (by omega), x1, x2, R_rn (k := 0 + 1) hi (by omega) (by omega) 99998, if_neg (by omega), if_pos rfl]
    obtain ⟨f2, Mc2, Mr2, b1, b2, b3, b4, b5⟩ := sim_w b (h := 38 + i) (i := i) (f := 3) (c := 4 * i + (0 + 1)) (by omega) (by omega) (by omega) s1 0 1
    rw [b1, b2]
    simp only [bindS]
    have F1 : CH (38 + i) Mc Mc2 := ((a3.ch (by omega)).trans (CH_u (by omega) (by omega))).trans (b3.ch (by omega))
    have G1 : RH i Mr Mr2 := ((a4.rh i).trans (RH_30 (by omega))).trans (b4.rh i)
    rcases b5 with ⟨e2, v2, y1, y2, y3, j2, s2⟩ | ⟨e2, y1⟩
    case inr =>
      rw [e2, if_pos rfl, if_pos rfl]
      exact ⟨0, Mc2, Mr2, rfl, rfl, F1, G1, Or.inr ⟨rfl, y1⟩⟩
    case inl =>
      rw [e2, if_neg (by omega), if_neg (by omega), y1, y2, R_rn_end 99997]
      refine ⟨1, _, _, rfl, rfl, F1.trans (CH_u (by omega) (by omega)), G1.trans (RH_30 (by omega)), Or.inl ⟨rfl, ⟨j2, s2⟩, ?_⟩⟩
      have p1 : zI (uI Mc2 (38 + i) 3 v2) (38 + i) 2 = v1 := by rw [zI_uI, if_neg (by omega), (b3.1 (38 + i) (by omega) 2).1, zI_at]
      have p2 : zI (uI Mr2 30 (4 * i + (0 + 1)) v2) 30 (4 * i) = v1 := by rw [zI_uI, if_neg (by omega), (b4.1 30 (by omega) (4 * i)).1]; exact zI_at _ _ _ _
      have p3 : zI (uI Mc2 (38 + i) 3 v2) (38 + i) 3 = v2 := zI_at _ _ _ _
      have p4 : zI (uI Mr2 30 (4 * i + (0 + 1)) v2) 30 (4 * i + 1) = v2 := zI_at _ _ _ _
      rw [p1, p2, p3, p4]
      exact ⟨rfl, x3, rfl, y3⟩
theorem sim_rg (b : BO n B) {j i : Nat} (hi : i < 40) {Mc Mr : MZ} (s : SR n B j Mc Mr) : ∃ (fl : Int) (Mc' Mr' : MZ), g_X6_readRange (38 + i) Mc = some (fl, Mc') ∧ g_X12_readsNumbers i 3 4 40 40 Mr = some (fl, Mr') ∧ Pc n B (38 + i) i fl Mc Mr Mc' Mr' (zI Mc' (38 + i) 2 = zI Mr' 30 (4 * i) ∧ (0 ≤ zI Mr' 30 (4 * i) ∧ zI Mr' 30 (4 * i) ≤ 4) ∧ zI Mc' (38 + i) 4 = zI Mr' 30 (4 * i + 1) ∧ (0 ≤ zI Mr' 30 (4 * i + 1) ∧ zI Mr' 30 (4 * i + 1) ≤ 40) ∧ zI Mc' (38 + i) 5 = zI Mr' 30 (4 * i + 2) ∧ (0 ≤ zI Mr' 30 (4 * i + 2) ∧ zI Mr' 30 (4 * i + 2) ≤ 40)) := by
  have hk := kdt i hi
  have r0 := R_rn (i := i) (many := 3) (k := 0) hi (by omega) (by omega) 99999 4 40 40 Mr
  unfold g_X6_readRange g_X12_readsNumbers
  rw [show (0 : Int) = ((0 : Nat) : Int) from rfl, show (3 : Int) = ((3 : Nat) : Int) from rfl, r0, if_pos rfl]
  obtain ⟨f1, Mc1, Mr1, a1, a2, a3, a4, a5⟩ := sim_w b (h := 38 + i) (i := i) (f := 2) (c := 4 * i + 0) (by omega) (by omega) (by omega) s 0 4
  rw [show ((0 : Nat) : Int) = 0 from rfl, a1, a2]
  simp only [bindS]
  rcases a5 with ⟨e1, v1, x1, x2, x3, j1, s1⟩ | ⟨e1, x1⟩
  case inr =>
    rw [e1, if_pos rfl, if_pos rfl]
    exact ⟨0, Mc1, Mr1, rfl, rfl, a3.ch (by omega), a4.rh i, Or.inr ⟨rfl, x1⟩⟩
  case inl =>
    rw [e1, if_neg (by omega), if_pos hk, if_neg (by omega), x1, x2, R_rn (k := 0 + 1) hi (by omega) (by omega) 99998, if_neg (by omega), if_pos rfl]
    obtain ⟨f2, Mc2, Mr2, b1, b2, b3, b4, b5⟩ := sim_w b (h := 38 + i) (i := i) (f := 4) (c := 4 * i + (0 + 1)) (by omega) (by omega) (by omega) s1 0 40
    rw [b1, b2]
    simp only [bindS]
    have F1 : CH (38 + i) Mc Mc2 := ((a3.ch (by omega)).trans (CH_u (by omega) (by omega))).trans (b3.ch (by omega))
    have G1 : RH i Mr Mr2 := ((a4.rh i).trans (RH_30 (by omega))).trans (b4.rh i)
    rcases b5 with ⟨e2, v2, y1, y2, y3, j2, s2⟩ | ⟨e2, y1⟩
    case inr =>
      rw [e2, if_pos rfl, if_pos rfl]
      exact ⟨0, Mc2, Mr2, rfl, rfl, F1, G1, Or.inr ⟨rfl, y1⟩⟩
    case inl =>
      rw [e2, if_neg (by omega), if_neg (by omega), y1, y2, R_rn (k := 0 + 1 + 1) hi (by omega) (by omega) 99997, if_neg (by omega), if_neg (by omega)]
      obtain ⟨f3, Mc3, Mr3, c1, c2, c3, c4, c5⟩ := sim_w b (h := 38 + i) (i := i) (f := 5) (c := 4 * i + (0 + 1 + 1)) (by omega) (by omega) (by omega) s2 0 40
      rw [c1, c2]
      simp only [bindS]
      have F2 : CH (38 + i) Mc Mc3 := (F1.trans (CH_u (by omega) (by omega))).trans (c3.ch (by omega))
      have G2 : RH i Mr Mr3 := (G1.trans (RH_30 (by omega))).trans (c4.rh i)
      rcases c5 with ⟨e3, v3, z1, z2, z3, j3, s3⟩ | ⟨e3, z1⟩
      case inr =>
        rw [e3, if_pos rfl, if_pos rfl]
        exact ⟨0, Mc3, Mr3, rfl, rfl, F2, G2, Or.inr ⟨rfl, z1⟩⟩
      case inl =>
        rw [e3, if_neg (by omega), if_neg (by omega), z1, z2, R_rn_end 99996]
        refine ⟨1, _, _, rfl, rfl, F2.trans (CH_u (by omega) (by omega)), G2.trans (RH_30 (by omega)), Or.inl ⟨rfl, ⟨j3, s3⟩, ?_⟩⟩
        have p1 : zI (uI Mc3 (38 + i) 5 v3) (38 + i) 2 = v1 := by rw [zI_uI, if_neg (by omega), (c3.1 (38 + i) (by omega) 2).1, zI_uI, if_neg (by omega), (b3.1 (38 + i) (by omega) 2).1, zI_at]
        have p2 : zI (uI Mr3 30 (4 * i + (0 + 1 + 1)) v3) 30 (4 * i) = v1 := by rw [zI_uI, if_neg (by omega), (c4.1 30 (by omega) (4 * i)).1, zI_uI, if_neg (by omega), (b4.1 30 (by omega) (4 * i)).1]; exact zI_at _ _ _ _
        have p3 : zI (uI Mc3 (38 + i) 5 v3) (38 + i) 4 = v2 := by rw [zI_uI, if_neg (by omega), (c3.1 (38 + i) (by omega) 4).1, zI_at]
        have p4 : zI (uI Mr3 30 (4 * i + (0 + 1 + 1)) v3) 30 (4 * i + 1) = v2 := by rw [zI_uI, if_neg (by omega), (c4.1 30 (by omega) (4 * i + 1)).1]; exact zI_at _ _ _ _
        have p5 : zI (uI Mc3 (38 + i) 5 v3) (38 + i) 5 = v3 := zI_at _ _ _ _
        have p6 : zI (uI Mr3 30 (4 * i + (0 + 1 + 1)) v3) 30 (4 * i + 2) = v3 := zI_at _ _ _ _
        rw [p1, p2, p3, p4, p5, p6]
        exact ⟨rfl, x3, rfl, y3, rfl, z3⟩
end BN
