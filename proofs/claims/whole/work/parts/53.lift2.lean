/-! every method once more, over Int (2) -/
def g_X3_readPurse_30 (v1 : Int) (S : MZ) : Option (Int × MZ) := ((g_X9_readNumber 0 (w32 ((zI S 143 0) - 1)) S).bind fun q44 => (if q44.1 = 0 then (some (0, q44.2)) else (g_X3_readPurse_60 v1 (zI q44.2 2 2) q44.2)))
theorem l_X3_readPurse_30 {v1 : Int32} {v1' : Int} (hv1 : tI v1 = v1') {S : Mem} {S' : MZ} (hS : tz S = S') : Lf tI (f_X3_readPurse_30 v1 S) = g_X3_readPurse_30 v1' S' := by
  unfold f_X3_readPurse_30 g_X3_readPurse_30
  exact (Lf_bind (l_X9_readNumber rfl (pI_sub (pI_g hS rfl rfl) rfl) hS) (fun q44 => (Lf_if (cI_eq rfl rfl) (Lf_some rfl rfl) (l_X3_readPurse_60 hv1 (pI_g rfl rfl rfl) rfl))))
def g_X3_readPurse (S : MZ) : Option (Int × MZ) := ((g_X9_readNumber 0 (w32 ((zI S 143 1) - 1)) S).bind fun q14 => (if q14.1 = 0 then (some (0, q14.2)) else (g_X3_readPurse_30 (zI q14.2 2 2) q14.2)))
theorem l_X3_readPurse {S : Mem} {S' : MZ} (hS : tz S = S') : Lf tI (f_X3_readPurse S) = g_X3_readPurse S' := by
  unfold f_X3_readPurse g_X3_readPurse
  exact (Lf_bind (l_X9_readNumber rfl (pI_sub (pI_g hS rfl rfl) rfl) hS) (fun q14 => (Lf_if (cI_eq rfl rfl) (Lf_some rfl rfl) (l_X3_readPurse_30 (pI_g rfl rfl rfl) rfl))))
def g_X3_readClause_107 (S : MZ) : Option (Int × MZ) := ((g_X9_blameWord 2 S).bind fun q112 => (if (q112.1 = 0 ∨ q112.1 = 1) then (some (q112.1, q112.2)) else none))
theorem l_X3_readClause_107 {S : Mem} {S' : MZ} (hS : tz S = S') : Lf tI (f_X3_readClause_107 S) = g_X3_readClause_107 S' := by
  unfold f_X3_readClause_107 g_X3_readClause_107
  exact (Lf_bind (l_X9_blameWord rfl hS) (fun q112 => (Lf_if (c_isB rfl) (Lf_some rfl rfl) rfl)))
def g_X3_readClause_140 (s0 : Int) (S : MZ) : Option (Int × MZ) := (if (s0 = 0 ∨ s0 = 1) then (some (s0, S)) else none)
theorem l_X3_readClause_140 {s0 : Int32} {s0' : Int} (hs0 : tI s0 = s0') {S : Mem} {S' : MZ} (hS : tz S = S') : Lf tI (f_X3_readClause_140 s0 S) = g_X3_readClause_140 s0' S' := by
  unfold f_X3_readClause_140 g_X3_readClause_140
  exact (Lf_if (c_isB hs0) (Lf_some hs0 hS) rfl)
def g_X3_readClause_99 (v2 : Int) (v3 : Int) (v4 : Int) (s0 : Int) (s1 : Int) (S : MZ) : Option (Int × MZ) := (if s1 = s0 then (if v4 = 0 then (if v2 = 0 then (if v3 = 0 then ((g_X3_readPurse S).bind fun q137 => (g_X3_readClause_140 q137.1 q137.2)) else ((g_X3_readPool S).bind fun q130 => (g_X3_readClause_140 q130.1 q130.2))) else ((g_X3_readSizes S).bind fun q121 => (if (q121.1 = 0 ∨ q121.1 = 1) then (some (q121.1, q121.2)) else none))) else (g_X3_readClause_107 S)) else (g_X3_readClause_107 S))
theorem l_X3_readClause_99 {v2 : Int32} {v2' : Int} (hv2 : tI v2 = v2') {v3 : Int32} {v3' : Int} (hv3 : tI v3 = v3') {v4 : Int32} {v4' : Int} (hv4 : tI v4 = v4') {s0 : Int32} {s0' : Int} (hs0 : tI s0 = s0') {s1 : Int32} {s1' : Int} (hs1 : tI s1 = s1') {S : Mem} {S' : MZ} (hS : tz S = S') : Lf tI (f_X3_readClause_99 v2 v3 v4 s0 s1 S) = g_X3_readClause_99 v2' v3' v4' s0' s1' S' := by
  unfold f_X3_readClause_99 g_X3_readClause_99
  exact (Lf_if (cI_eq hs1 hs0) (Lf_if (cI_eq hv4 rfl) (Lf_if (cI_eq hv2 rfl) (Lf_if (cI_eq hv3 rfl) (Lf_bind (l_X3_readPurse hS) (fun q137 => (l_X3_readClause_140 rfl rfl))) (Lf_bind (l_X3_readPool hS) (fun q130 => (l_X3_readClause_140 rfl rfl)))) (Lf_bind (l_X3_readSizes hS) (fun q121 => (Lf_if (c_isB rfl) (Lf_some rfl rfl) rfl)))) (l_X3_readClause_107 hS)) (l_X3_readClause_107 hS))
def g_X3_readClause_81 (v1 : Int) (v2 : Int) (v3 : Int) (s0 : Int) (S : MZ) : Option (Int × MZ) := (if 30 ≤ v1 then (g_X3_readClause_107 S) else (if v1 = 0 then (g_X3_readClause_99 v2 v3 s0 1 v2 S) else (g_X3_readClause_99 v2 v3 s0 0 v2 S)))
theorem l_X3_readClause_81 {v1 : Int32} {v1' : Int} (hv1 : tI v1 = v1') {v2 : Int32} {v2' : Int} (hv2 : tI v2 = v2') {v3 : Int32} {v3' : Int} (hv3 : tI v3 = v3') {s0 : Int32} {s0' : Int} (hs0 : tI s0 = s0') {S : Mem} {S' : MZ} (hS : tz S = S') : Lf tI (f_X3_readClause_81 v1 v2 v3 s0 S) = g_X3_readClause_81 v1' v2' v3' s0' S' := by
  unfold f_X3_readClause_81 g_X3_readClause_81
  exact (Lf_if (cI_le rfl hv1) (l_X3_readClause_107 hS) (Lf_if (cI_eq hv1 rfl) (l_X3_readClause_99 hv2 hv3 hs0 rfl hv2 hS) (l_X3_readClause_99 hv2 hv3 hs0 rfl hv2 hS)))
def g_X3_readClause_80 (v1 : Int) (v2 : Int) (v3 : Int) (S : MZ) : Option (Int × MZ) := (g_X3_readClause_81 v1 v2 v3 0 S)
theorem l_X3_readClause_80 {v1 : Int32} {v1' : Int} (hv1 : tI v1 = v1') {v2 : Int32} {v2' : Int} (hv2 : tI v2 = v2') {v3 : Int32} {v3' : Int} (hv3 : tI v3 = v3') {S : Mem} {S' : MZ} (hS : tz S = S') : Lf tI (f_X3_readClause_80 v1 v2 v3 S) = g_X3_readClause_80 v1' v2' v3' S' := by
  unfold f_X3_readClause_80 g_X3_readClause_80
  exact (l_X3_readClause_81 hv1 hv2 hv3 rfl hS)
def g_X3_readClause_61 (v1 : Int) (v2 : Int) (v3 : Int) (S : MZ) : Option (Int × MZ) := (if v3 = 0 then (g_X3_readClause_80 v1 v2 v3 S) else (if (zI S 143 2) < 5 then (g_X3_readClause_80 v1 v2 v3 S) else (g_X3_readClause_81 v1 v2 v3 1 S)))
theorem l_X3_readClause_61 {v1 : Int32} {v1' : Int} (hv1 : tI v1 = v1') {v2 : Int32} {v2' : Int} (hv2 : tI v2 = v2') {v3 : Int32} {v3' : Int} (hv3 : tI v3 = v3') {S : Mem} {S' : MZ} (hS : tz S = S') : Lf tI (f_X3_readClause_61 v1 v2 v3 S) = g_X3_readClause_61 v1' v2' v3' S' := by
  unfold f_X3_readClause_61 g_X3_readClause_61
  exact (Lf_if (cI_eq hv3 rfl) (l_X3_readClause_80 hv1 hv2 hv3 hS) (Lf_if (cI_lt (pI_g hS rfl rfl) rfl) (l_X3_readClause_80 hv1 hv2 hv3 hS) (l_X3_readClause_81 hv1 hv2 hv3 rfl hS)))
def g_X3_readClause (p1 : Int) (S : MZ) : Option (Int × MZ) := ((g_X9_readWord S).bind fun q4 => (if q4.1 = 0 then (some (0, q4.2)) else ((g_X9_wordIs 301 q4.2).bind fun q18 => ((g_X9_wordIs 302 q18.2).bind fun q28 => (if q18.1 = 0 then (if q28.1 = 0 then ((g_X9_wordIs 303 q28.2).bind fun q46 => (if q46.1 = 0 then ((g_X9_blameWord 0 q46.2).bind fun q57 => (if (q57.1 = 0 ∨ q57.1 = 1) then (some (q57.1, q57.2)) else none)) else (g_X3_readClause_61 p1 q18.1 q28.1 q46.2))) else (g_X3_readClause_61 p1 q18.1 q28.1 q28.2)) else (g_X3_readClause_61 p1 q18.1 q28.1 q28.2))))))
theorem l_X3_readClause {p1 : Int32} {p1' : Int} (hp1 : tI p1 = p1') {S : Mem} {S' : MZ} (hS : tz S = S') : Lf tI (f_X3_readClause p1 S) = g_X3_readClause p1' S' := by
  unfold f_X3_readClause g_X3_readClause
  exact (Lf_bind (l_X9_readWord hS) (fun q4 => (Lf_if (cI_eq rfl rfl) (Lf_some rfl rfl) (Lf_bind (l_X9_wordIs rfl rfl) (fun q18 => (Lf_bind (l_X9_wordIs rfl rfl) (fun q28 => (Lf_if (cI_eq rfl rfl) (Lf_if (cI_eq rfl rfl) (Lf_bind (l_X9_wordIs rfl rfl) (fun q46 => (Lf_if (cI_eq rfl rfl) (Lf_bind (l_X9_blameWord rfl rfl) (fun q57 => (Lf_if (c_isB rfl) (Lf_some rfl rfl) rfl))) (l_X3_readClause_61 hp1 rfl rfl rfl)))) (l_X3_readClause_61 hp1 rfl rfl rfl)) (l_X3_readClause_61 hp1 rfl rfl rfl)))))))))
def g_X9_accept (p1 : Int) (S : MZ) : Option (Int × MZ) := ((g_X9_peek S).bind fun q1 => (if q1.1 = p1 then (some (1, (uI q1.2 2 5 (w32 ((zI q1.2 2 5) + 1))))) else (some (0, q1.2))))
theorem l_X9_accept {p1 : Int32} {p1' : Int} (hp1 : tI p1 = p1') {S : Mem} {S' : MZ} (hS : tz S = S') : Lf tI (f_X9_accept p1 S) = g_X9_accept p1' S' := by
  unfold f_X9_accept g_X9_accept
  exact (Lf_bind (l_X9_peek hS) (fun q1 => (Lf_if (cI_eq rfl hp1) (Lf_some rfl (pM_I rfl rfl rfl (pI_add (pI_g rfl rfl rfl) rfl))) (Lf_some rfl rfl))))
def g_X9_blameHere (p1 : Int) (S : MZ) : Option (Int × MZ) := ((g_X9_peek S).bind fun q1 => ((g_X9_blame (zI q1.2 2 5) p1 q1.2).bind fun q11 => (if (q11.1 = 0 ∨ q11.1 = 1) then (some (q11.1, q11.2)) else none)))
theorem l_X9_blameHere {p1 : Int32} {p1' : Int} (hp1 : tI p1 = p1') {S : Mem} {S' : MZ} (hS : tz S = S') : Lf tI (f_X9_blameHere p1 S) = g_X9_blameHere p1' S' := by
  unfold f_X9_blameHere g_X9_blameHere
  exact (Lf_bind (l_X9_peek hS) (fun q1 => (Lf_bind (l_X9_blame (pI_g rfl rfl rfl) hp1 rfl) (fun q11 => (Lf_if (c_isB rfl) (Lf_some rfl rfl) rfl)))))
def g_X3_read_16B (k16 : Int → MZ → Option (Int × MZ)) (v1 : Int) (S : MZ) : Option (Int × MZ) := (if 30 < v1 then (some (0, S)) else ((g_X3_readClause v1 S).bind fun q24 => (if q24.1 = 0 then (some (0, q24.2)) else ((g_X9_peek q24.2).bind fun q36 => (if q36.1 = (-1) then (some (1, q36.2)) else ((g_X9_accept 59 q36.2).bind fun q51 => (if q51.1 = 0 then ((g_X9_blameHere 0 q51.2).bind fun q62 => (if (q62.1 = 0 ∨ q62.1 = 1) then (some (q62.1, q62.2)) else none)) else (k16 (w32 (v1 + 1)) q51.2))))))))
theorem l_X3_read_16B {k16 : Int32 → Mem → Option (Int32 × Mem)} {k16' : Int → MZ → Option (Int × MZ)} (hk16 : ∀ {x0 : Int32} {x1 : Mem} {y0 : Int} {y1 : MZ}, tI x0 = y0 → tz x1 = y1 → Lf tI (k16 x0 x1) = k16' y0 y1) {v1 : Int32} {v1' : Int} (hv1 : tI v1 = v1') {S : Mem} {S' : MZ} (hS : tz S = S') : Lf tI (f_X3_read_16B k16 v1 S) = g_X3_read_16B k16' v1' S' := by
  unfold f_X3_read_16B g_X3_read_16B
  exact (Lf_if (cI_lt rfl hv1) (Lf_some rfl hS) (Lf_bind (l_X3_readClause hv1 hS) (fun q24 => (Lf_if (cI_eq rfl rfl) (Lf_some rfl rfl) (Lf_bind (l_X9_peek rfl) (fun q36 => (Lf_if (cI_eq rfl rfl) (Lf_some rfl rfl) (Lf_bind (l_X9_accept rfl rfl) (fun q51 => (Lf_if (cI_eq rfl rfl) (Lf_bind (l_X9_blameHere rfl rfl) (fun q62 => (Lf_if (c_isB rfl) (Lf_some rfl rfl) rfl))) (hk16 (pI_add hv1 rfl) rfl)))))))))))
def g_X3_read_16 : Nat → Int → MZ → Option (Int × MZ)
  | 0 => fun _ _ => none
  | n + 1 => g_X3_read_16B (g_X3_read_16 n)
theorem l_X3_read_16 : ∀ (n : Nat) {x0 : Int32} {x1 : Mem} {y0 : Int} {y1 : MZ}, tI x0 = y0 → tz x1 = y1 → Lf tI (f_X3_read_16 n x0 x1) = g_X3_read_16 n y0 y1
  | 0, _, _, _, _, _, _ => rfl
  | n + 1, _, _, _, _, e0, e1 => l_X3_read_16B (fun de0 de1 => l_X3_read_16 n de0 de1) e0 e1
def g_X3_read (S : MZ) : Option (Int × MZ) := ((g_X9_rewind S).bind fun q4 => ((g_X2_clear 143 q4.2).bind fun q11 => (g_X3_read_16 100000 0 q11.2)))
theorem l_X3_read {S : Mem} {S' : MZ} (hS : tz S = S') : Lf tI (f_X3_read S) = g_X3_read S' := by
  unfold f_X3_read g_X3_read
  exact (Lf_bind (l_X9_rewind hS) (fun q4 => (Lf_bind (l_X2_clear rfl rfl) (fun q11 => (l_X3_read_16 100000 rfl rfl)))))
def g_X4_firstMark (h0 : Nat) (S : MZ) : Option (Int × MZ) := (if kd h0 = (3, 12) then (some ((zI S (h0 + 3) 0), S)) else none)
theorem l_X4_firstMark {h0 : Nat} {h0' : Nat} (hh0 : h0 = h0') {S : Mem} {S' : MZ} (hS : tz S = S') : Lf tI (f_X4_firstMark h0 S) = g_X4_firstMark h0' S' := by
  unfold f_X4_firstMark g_X4_firstMark
  exact (Lf_if (c_kd hh0) (Lf_some (pI_g hS (pR_add hh0 rfl) (pN_of (a' := 0) rfl)) hS) rfl)
def g_X5_start_32B (k32 : Int → MZ → Option (Unit × MZ)) (v2 : Int) (S : MZ) : Option (Unit × MZ) := (if 5 ≤ v2 then (some ((), S)) else (if (0 ≤ v2 ∧ v2 < ((5 : Nat) : Int)) then (k32 (w32 (v2 + 1)) (uI S 13 (v2).toNat 0)) else none))
theorem l_X5_start_32B {k32 : Int32 → Mem → Option (Unit × Mem)} {k32' : Int → MZ → Option (Unit × MZ)} (hk32 : ∀ {x0 : Int32} {x1 : Mem} {y0 : Int} {y1 : MZ}, tI x0 = y0 → tz x1 = y1 → Lf tU (k32 x0 x1) = k32' y0 y1) {v2 : Int32} {v2' : Int} (hv2 : tI v2 = v2') {S : Mem} {S' : MZ} (hS : tz S = S') : Lf tU (f_X5_start_32B k32 v2 S) = g_X5_start_32B k32' v2' S' := by
  unfold f_X5_start_32B g_X5_start_32B
  exact (Lf_if (cI_le rfl hv2) (Lf_some rfl hS) (Lf_if (c_inb hv2 rfl) (hk32 (pI_add hv2 rfl) (pM_I hS rfl (pN_of hv2) rfl)) rfl))
def g_X5_start_32 : Nat → Int → MZ → Option (Unit × MZ)
  | 0 => fun _ _ => none
  | n + 1 => g_X5_start_32B (g_X5_start_32 n)
theorem l_X5_start_32 : ∀ (n : Nat) {x0 : Int32} {x1 : Mem} {y0 : Int} {y1 : MZ}, tI x0 = y0 → tz x1 = y1 → Lf tU (f_X5_start_32 n x0 x1) = g_X5_start_32 n y0 y1
  | 0, _, _, _, _, _, _ => rfl
  | n + 1, _, _, _, _, e0, e1 => l_X5_start_32B (fun de0 de1 => l_X5_start_32 n de0 de1) e0 e1
def g_X5_start_30 (S : MZ) : Option (Unit × MZ) := (g_X5_start_32 100000 0 S)
theorem l_X5_start_30 {S : Mem} {S' : MZ} (hS : tz S = S') : Lf tU (f_X5_start_30 S) = g_X5_start_30 S' := by
  unfold f_X5_start_30 g_X5_start_30
  exact (l_X5_start_32 100000 rfl hS)
def g_X5_start_15 (S : MZ) : Option (Unit × MZ) := (g_X5_start_30 (uL (uI (uI S 9 6 0) 9 7 0) 9 8 0))
theorem l_X5_start_15 {S : Mem} {S' : MZ} (hS : tz S = S') : Lf tU (f_X5_start_15 S) = g_X5_start_15 S' := by
  unfold f_X5_start_15 g_X5_start_15
  exact (l_X5_start_30 (pM_L (pM_I (pM_I hS rfl rfl rfl) rfl rfl rfl) rfl rfl rfl))
def g_X5_start (p1 : Int) (S : MZ) : Option (Unit × MZ) := (g_X5_start_15 (uI (uI (uI S 9 5 p1) 9 0 0) 9 1 0))
theorem l_X5_start {p1 : Int32} {p1' : Int} (hp1 : tI p1 = p1') {S : Mem} {S' : MZ} (hS : tz S = S') : Lf tU (f_X5_start p1 S) = g_X5_start p1' S' := by
  unfold f_X5_start g_X5_start
  exact (l_X5_start_15 (pM_I (pM_I (pM_I hS rfl rfl hp1) rfl rfl rfl) rfl rfl rfl))
def g_X5_goesOn_33 (s0 : Int) (S : MZ) : Option (Int × MZ) := (if (s0 = 0 ∨ s0 = 1) then (some (s0, S)) else none)
theorem l_X5_goesOn_33 {s0 : Int32} {s0' : Int} (hs0 : tI s0 = s0') {S : Mem} {S' : MZ} (hS : tz S = S') : Lf tI (f_X5_goesOn_33 s0 S) = g_X5_goesOn_33 s0' S' := by
  unfold f_X5_goesOn_33 g_X5_goesOn_33
  exact (Lf_if (c_isB hs0) (Lf_some hs0 hS) rfl)
def g_X5_goesOn_28 (S : MZ) : Option (Int × MZ) := (g_X5_goesOn_33 1 S)
theorem l_X5_goesOn_28 {S : Mem} {S' : MZ} (hS : tz S = S') : Lf tI (f_X5_goesOn_28 S) = g_X5_goesOn_28 S' := by
  unfold f_X5_goesOn_28 g_X5_goesOn_28
  exact (l_X5_goesOn_33 rfl hS)
def g_X5_goesOn_32 (S : MZ) : Option (Int × MZ) := (g_X5_goesOn_33 0 S)
theorem l_X5_goesOn_32 {S : Mem} {S' : MZ} (hS : tz S = S') : Lf tI (f_X5_goesOn_32 S) = g_X5_goesOn_32 S' := by
  unfold f_X5_goesOn_32 g_X5_goesOn_32
  exact (l_X5_goesOn_33 rfl hS)
def g_X5_goesOn (S : MZ) : Option (Int × MZ) := (if (zI S 9 1) = 0 then (if 0 < (zI S 9 7) then (g_X5_goesOn_28 S) else (if (zI S 6 0) ≤ (zI S 9 6) then (g_X5_goesOn_32 S) else (g_X5_goesOn_28 S))) else (g_X5_goesOn_32 S))
theorem l_X5_goesOn {S : Mem} {S' : MZ} (hS : tz S = S') : Lf tI (f_X5_goesOn S) = g_X5_goesOn S' := by
  unfold f_X5_goesOn g_X5_goesOn
  exact (Lf_if (cI_eq (pI_g hS rfl rfl) rfl) (Lf_if (cI_lt rfl (pI_g hS rfl rfl)) (l_X5_goesOn_28 hS) (Lf_if (cI_le (pI_g hS rfl rfl) (pI_g hS rfl rfl)) (l_X5_goesOn_32 hS) (l_X5_goesOn_28 hS))) (l_X5_goesOn_32 hS))
def g_X6_stepAt_31 (s0 : Nat) (S : MZ) : Option (Nat × MZ) := (some (s0, S))
theorem l_X6_stepAt_31 {s0 : Nat} {s0' : Nat} (hs0 : s0 = s0') {S : Mem} {S' : MZ} (hS : tz S = S') : Lf tR (f_X6_stepAt_31 s0 S) = g_X6_stepAt_31 s0' S' := by
  unfold f_X6_stepAt_31 g_X6_stepAt_31
  exact (Lf_some hs0 hS)
def g_X6_stepAt_30 (S : MZ) : Option (Nat × MZ) := (g_X6_stepAt_31 0 S)
theorem l_X6_stepAt_30 {S : Mem} {S' : MZ} (hS : tz S = S') : Lf tR (f_X6_stepAt_30 S) = g_X6_stepAt_30 S' := by
  unfold f_X6_stepAt_30 g_X6_stepAt_30
  exact (l_X6_stepAt_31 rfl hS)
def g_X6_stepAt (p1 : Int) (S : MZ) : Option (Nat × MZ) := (if p1 < 0 then (g_X6_stepAt_30 S) else (if (zI S 6 0) ≤ p1 then (g_X6_stepAt_30 S) else (if 40 ≤ p1 then (g_X6_stepAt_30 S) else (if (0 ≤ p1 ∧ p1 < ((40 : Nat) : Int)) then (g_X6_stepAt_31 ((7 + 31) + (p1).toNat) S) else none))))
theorem l_X6_stepAt {p1 : Int32} {p1' : Int} (hp1 : tI p1 = p1') {S : Mem} {S' : MZ} (hS : tz S = S') : Lf tR (f_X6_stepAt p1 S) = g_X6_stepAt p1' S' := by
  unfold f_X6_stepAt g_X6_stepAt
  exact (Lf_if (cI_lt hp1 rfl) (l_X6_stepAt_30 hS) (Lf_if (cI_le (pI_g hS rfl rfl) hp1) (l_X6_stepAt_30 hS) (Lf_if (cI_le rfl hp1) (l_X6_stepAt_30 hS) (Lf_if (c_inb hp1 rfl) (l_X6_stepAt_31 (pR_add rfl (pN_of hp1)) hS) rfl))))
def g_X5_setLocked_20 (S : MZ) : Option (Unit × MZ) := (some ((), S))
theorem l_X5_setLocked_20 {S : Mem} {S' : MZ} (hS : tz S = S') : Lf tU (f_X5_setLocked_20 S) = g_X5_setLocked_20 S' := by
  unfold f_X5_setLocked_20 g_X5_setLocked_20
  exact (Lf_some rfl hS)
def g_X5_setLocked (p1 : Int) (p2 : Int) (S : MZ) : Option (Unit × MZ) := (if p1 < 0 then (g_X5_setLocked_20 S) else (if 5 ≤ p1 then (g_X5_setLocked_20 S) else (if (0 ≤ p1 ∧ p1 < ((5 : Nat) : Int)) then (if (p2 = 0 ∨ p2 = 1) then (g_X5_setLocked_20 (uI S 13 (p1).toNat p2)) else none) else none)))
theorem l_X5_setLocked {p1 : Int32} {p1' : Int} (hp1 : tI p1 = p1') {p2 : Int32} {p2' : Int} (hp2 : tI p2 = p2') {S : Mem} {S' : MZ} (hS : tz S = S') : Lf tU (f_X5_setLocked p1 p2 S) = g_X5_setLocked p1' p2' S' := by
  unfold f_X5_setLocked g_X5_setLocked
  exact (Lf_if (cI_lt hp1 rfl) (l_X5_setLocked_20 hS) (Lf_if (cI_le rfl hp1) (l_X5_setLocked_20 hS) (Lf_if (c_inb hp1 rfl) (Lf_if (c_isB hp2) (l_X5_setLocked_20 (pM_I hS rfl (pN_of hp1) hp2)) rfl) rfl)))
def g_X5_fail (p1 : Nat) (p2 : Int) (S : MZ) : Option (Unit × MZ) := (if kd p1 = (7, 10) then (some ((), (uI S 9 1 (w32 ((w32 (1 + (w32 (8 * (zI S p1 1))))) + p2))))) else none)
theorem l_X5_fail {p1 : Nat} {p1' : Nat} (hp1 : p1 = p1') {p2 : Int32} {p2' : Int} (hp2 : tI p2 = p2') {S : Mem} {S' : MZ} (hS : tz S = S') : Lf tU (f_X5_fail p1 p2 S) = g_X5_fail p1' p2' S' := by
  unfold f_X5_fail g_X5_fail
  exact (Lf_if (c_kd hp1) (Lf_some rfl (pM_I hS rfl rfl (pI_add (pI_add rfl (pI_mul rfl (pI_g hS hp1 rfl))) hp2))) rfl)
def g_X5_giveBack_43 (v1 : Nat) (v2 : Int) (v3 : Nat) (v4 : Int) (S : MZ) : Option (Unit × MZ) := (if kd v1 = (7, 10) then (if kd v3 = (3, 12) then ((g_X4_thingOn v3 (zI S v1 3) S).bind fun q56 => ((g_X2_purseOf 78 (zI S 9 5) q56.1 q56.2).bind fun q59 => (if (w32 (v2 + v4)) ≤ q59.1 then ((g_X2_payOut 78 v3 (zI q59.2 v1 3) (zI q59.2 9 5) (w32 (-(w32 (v2 + v4)))) q59.2).bind fun q95 => ((g_X2_share 78 (zI q95.2 v1 2) (zI q95.2 v1 3) v4 q95.2).bind fun q113 => (some ((), q113.2)))) else ((g_X5_fail v1 7 q59.2).bind fun q73 => (some ((), q73.2)))))) else none) else none)
theorem l_X5_giveBack_43 {v1 : Nat} {v1' : Nat} (hv1 : v1 = v1') {v2 : Int32} {v2' : Int} (hv2 : tI v2 = v2') {v3 : Nat} {v3' : Nat} (hv3 : v3 = v3') {v4 : Int32} {v4' : Int} (hv4 : tI v4 = v4') {S : Mem} {S' : MZ} (hS : tz S = S') : Lf tU (f_X5_giveBack_43 v1 v2 v3 v4 S) = g_X5_giveBack_43 v1' v2' v3' v4' S' := by
  unfold f_X5_giveBack_43 g_X5_giveBack_43
  exact (Lf_if (c_kd hv1) (Lf_if (c_kd hv3) (Lf_bind (l_X4_thingOn hv3 (pI_g hS hv1 rfl) hS) (fun q56 => (Lf_bind (l_X2_purseOf rfl (pI_g hS rfl rfl) rfl rfl) (fun q59 => (Lf_if (cI_le (pI_add hv2 hv4) rfl) (Lf_bind (l_X2_payOut rfl hv3 (pI_g rfl hv1 rfl) (pI_g rfl rfl rfl) (pI_neg (pI_add hv2 hv4)) rfl) (fun q95 => (Lf_bind (l_X2_share rfl (pI_g rfl hv1 rfl) (pI_g rfl hv1 rfl) (pJ_of hv4) rfl) (fun q113 => (Lf_some rfl rfl))))) (Lf_bind (l_X5_fail hv1 rfl rfl) (fun q73 => (Lf_some rfl rfl)))))))) rfl) rfl)
def g_X5_giveBack (p1 : Nat) (p2 : Int) (S : MZ) : Option (Unit × MZ) := (if kd p1 = (7, 10) then ((g_X2_poolAt 78 (zI S p1 2) S).bind fun q8 => ((g_X5_setLocked (zI q8.2 p1 2) 0 q8.2).bind fun q18 => (if q8.1 = 0 then (some ((), q18.2)) else (if kd q8.1 = (3, 12) then ((g_X0_upwards (w64 (p2 * (zI q18.2 q8.1 2))) 1000 q18.2).bind fun q37 => (g_X5_giveBack_43 p1 p2 q8.1 (w32 q37.1) q37.2)) else none)))) else none)
theorem l_X5_giveBack {p1 : Nat} {p1' : Nat} (hp1 : p1 = p1') {p2 : Int32} {p2' : Int} (hp2 : tI p2 = p2') {S : Mem} {S' : MZ} (hS : tz S = S') : Lf tU (f_X5_giveBack p1 p2 S) = g_X5_giveBack p1' p2' S' := by
  unfold f_X5_giveBack g_X5_giveBack
  exact (Lf_if (c_kd hp1) (Lf_bind (l_X2_poolAt rfl (pI_g hS hp1 rfl) hS) (fun q8 => (Lf_bind (l_X5_setLocked (pI_g rfl hp1 rfl) rfl rfl) (fun q18 => (Lf_if (cR_eq rfl rfl) (Lf_some rfl rfl) (Lf_if (c_kd rfl) (Lf_bind (l_X0_upwards (pJ_mul (pJ_of hp2) (pJ_of (pI_g rfl rfl rfl))) rfl rfl) (fun q37 => (l_X5_giveBack_43 hp1 hp2 rfl (pI_of rfl) rfl))) rfl)))))) rfl)
def g_X5_closeBracket_20 (S : MZ) : Option (Unit × MZ) := (some ((), S))
theorem l_X5_closeBracket_20 {S : Mem} {S' : MZ} (hS : tz S = S') : Lf tU (f_X5_closeBracket_20 S) = g_X5_closeBracket_20 S' := by
  unfold f_X5_closeBracket_20 g_X5_closeBracket_20
  exact (Lf_some rfl hS)
def g_X5_closeBracket_85 (S : MZ) : Option (Unit × MZ) := (some ((), S))
theorem l_X5_closeBracket_85 {S : Mem} {S' : MZ} (hS : tz S = S') : Lf tU (f_X5_closeBracket_85 S) = g_X5_closeBracket_85 S' := by
  unfold f_X5_closeBracket_85 g_X5_closeBracket_85
  exact (Lf_some rfl hS)
def g_X5_closeBracket_7 (v1 : Nat) (v2 : Int) (S : MZ) : Option (Unit × MZ) := (if v2 < 0 then (g_X5_closeBracket_20 S) else (if v2 < 4 then (if kd v1 = (7, 10) then (if (zI S v1 0) = 5 then (if (0 ≤ v2 ∧ v2 < ((4 : Nat) : Int)) then ((g_X5_giveBack v1 (zI S 12 (v2).toNat) S).bind fun q37 => (some ((), (uI q37.2 9 7 v2)))) else none) else (if (0 ≤ v2 ∧ v2 < ((4 : Nat) : Int)) then (if (0 ≤ v2 ∧ v2 < ((4 : Nat) : Int)) then (if (0 ≤ v2 ∧ v2 < ((4 : Nat) : Int)) then (if (zI (uI S 11 (v2).toNat (w32 ((zI S 11 (v2).toNat) - 1))) 11 (v2).toNat) ≤ 0 then (g_X5_closeBracket_85 (uI (uI S 11 (v2).toNat (w32 ((zI S 11 (v2).toNat) - 1))) 9 7 v2)) else (if (0 ≤ v2 ∧ v2 < ((4 : Nat) : Int)) then (g_X5_closeBracket_85 (uI (uI S 11 (v2).toNat (w32 ((zI S 11 (v2).toNat) - 1))) 9 6 (w32 ((zI (uI S 11 (v2).toNat (w32 ((zI S 11 (v2).toNat) - 1))) 10 (v2).toNat) + 1)))) else none)) else none) else none) else none)) else none) else (g_X5_closeBracket_20 S)))
theorem l_X5_closeBracket_7 {v1 : Nat} {v1' : Nat} (hv1 : v1 = v1') {v2 : Int32} {v2' : Int} (hv2 : tI v2 = v2') {S : Mem} {S' : MZ} (hS : tz S = S') : Lf tU (f_X5_closeBracket_7 v1 v2 S) = g_X5_closeBracket_7 v1' v2' S' := by
  unfold f_X5_closeBracket_7 g_X5_closeBracket_7
  exact (Lf_if (cI_lt hv2 rfl) (l_X5_closeBracket_20 hS) (Lf_if (cI_lt hv2 rfl) (Lf_if (c_kd hv1) (Lf_if (cI_eq (pI_g hS hv1 rfl) rfl) (Lf_if (c_inb hv2 rfl) (Lf_bind (l_X5_giveBack hv1 (pI_g hS rfl (pN_of hv2)) hS) (fun q37 => (Lf_some rfl (pM_I rfl rfl rfl hv2)))) rfl) (Lf_if (c_inb hv2 rfl) (Lf_if (c_inb hv2 rfl) (Lf_if (c_inb hv2 rfl) (Lf_if (cI_le (pI_g (pM_I hS rfl (pN_of hv2) (pI_sub (pI_g hS rfl (pN_of hv2)) rfl)) rfl (pN_of hv2)) rfl) (l_X5_closeBracket_85 (pM_I (pM_I hS rfl (pN_of hv2) (pI_sub (pI_g hS rfl (pN_of hv2)) rfl)) rfl rfl hv2)) (Lf_if (c_inb hv2 rfl) (l_X5_closeBracket_85 (pM_I (pM_I hS rfl (pN_of hv2) (pI_sub (pI_g hS rfl (pN_of hv2)) rfl)) rfl rfl (pI_add (pI_g (pM_I hS rfl (pN_of hv2) (pI_sub (pI_g hS rfl (pN_of hv2)) rfl)) rfl (pN_of hv2)) rfl))) rfl)) rfl) rfl) rfl)) rfl) (l_X5_closeBracket_20 hS)))
def g_X5_closeBracket (p1 : Nat) (S : MZ) : Option (Unit × MZ) := (g_X5_closeBracket_7 p1 (w32 ((zI S 9 7) - 1)) S)
theorem l_X5_closeBracket {p1 : Nat} {p1' : Nat} (hp1 : p1 = p1') {S : Mem} {S' : MZ} (hS : tz S = S') : Lf tU (f_X5_closeBracket p1 S) = g_X5_closeBracket p1' S' := by
  unfold f_X5_closeBracket g_X5_closeBracket
  exact (l_X5_closeBracket_7 hp1 (pI_sub (pI_g hS rfl rfl) rfl) hS)
def g_X5_isLocked_27 (s0 : Int) (S : MZ) : Option (Int × MZ) := (if (s0 = 0 ∨ s0 = 1) then (some (s0, S)) else none)
theorem l_X5_isLocked_27 {s0 : Int32} {s0' : Int} (hs0 : tI s0 = s0') {S : Mem} {S' : MZ} (hS : tz S = S') : Lf tI (f_X5_isLocked_27 s0 S) = g_X5_isLocked_27 s0' S' := by
  unfold f_X5_isLocked_27 g_X5_isLocked_27
  exact (Lf_if (c_isB hs0) (Lf_some hs0 hS) rfl)
def g_X5_isLocked_26 (S : MZ) : Option (Int × MZ) := (g_X5_isLocked_27 0 S)
theorem l_X5_isLocked_26 {S : Mem} {S' : MZ} (hS : tz S = S') : Lf tI (f_X5_isLocked_26 S) = g_X5_isLocked_26 S' := by
  unfold f_X5_isLocked_26 g_X5_isLocked_26
  exact (l_X5_isLocked_27 rfl hS)
def g_X5_isLocked (p1 : Int) (S : MZ) : Option (Int × MZ) := (if p1 < 0 then (g_X5_isLocked_26 S) else (if 5 ≤ p1 then (g_X5_isLocked_26 S) else (if (0 ≤ p1 ∧ p1 < ((5 : Nat) : Int)) then (if (zI S 13 (p1).toNat) = 0 then (g_X5_isLocked_26 S) else (g_X5_isLocked_27 1 S)) else none)))
theorem l_X5_isLocked {p1 : Int32} {p1' : Int} (hp1 : tI p1 = p1') {S : Mem} {S' : MZ} (hS : tz S = S') : Lf tI (f_X5_isLocked p1 S) = g_X5_isLocked p1' S' := by
  unfold f_X5_isLocked g_X5_isLocked
  exact (Lf_if (cI_lt hp1 rfl) (l_X5_isLocked_26 hS) (Lf_if (cI_le rfl hp1) (l_X5_isLocked_26 hS) (Lf_if (c_inb hp1 rfl) (Lf_if (cI_eq (pI_g hS rfl (pN_of hp1)) rfl) (l_X5_isLocked_26 hS) (l_X5_isLocked_27 rfl hS)) rfl)))
def g_X5_muchOf_31 (s0 : Int) (S : MZ) : Option (Int × MZ) := (some (s0, S))
theorem l_X5_muchOf_31 {s0 : Int64} {s0' : Int} (hs0 : tJ s0 = s0') {S : Mem} {S' : MZ} (hS : tz S = S') : Lf tJ (f_X5_muchOf_31 s0 S) = g_X5_muchOf_31 s0' S' := by
  unfold f_X5_muchOf_31 g_X5_muchOf_31
  exact (Lf_some hs0 hS)
def g_X5_muchOf (p1 : Nat) (p2 : Int) (S : MZ) : Option (Int × MZ) := (if kd p1 = (7, 10) then (if (zI S p1 8) = 1 then (some (p2, S)) else (if (zI S p1 8) = 2 then (g_X5_muchOf_31 (zL S 9 8) S) else (g_X5_muchOf_31 (zI S p1 7) S))) else none)
theorem l_X5_muchOf {p1 : Nat} {p1' : Nat} (hp1 : p1 = p1') {p2 : Int32} {p2' : Int} (hp2 : tI p2 = p2') {S : Mem} {S' : MZ} (hS : tz S = S') : Lf tJ (f_X5_muchOf p1 p2 S) = g_X5_muchOf p1' p2' S' := by
  unfold f_X5_muchOf g_X5_muchOf
  exact (Lf_if (c_kd hp1) (Lf_if (cI_eq (pI_g hS hp1 rfl) rfl) (Lf_some (pJ_of hp2) hS) (Lf_if (cI_eq (pI_g hS hp1 rfl) rfl) (l_X5_muchOf_31 (pJ_g hS rfl rfl) hS) (l_X5_muchOf_31 (pJ_of (pI_g hS hp1 rfl)) hS))) rfl)
def g_X5_doIn_27 (S : MZ) : Option (Int × MZ) := (some (0, S))
theorem l_X5_doIn_27 {S : Mem} {S' : MZ} (hS : tz S = S') : Lf tI (f_X5_doIn_27 S) = g_X5_doIn_27 S' := by
  unfold f_X5_doIn_27 g_X5_doIn_27
  exact (Lf_some rfl hS)
def g_X5_doIn_72 (S : MZ) : Option (Int × MZ) := (some (0, S))
theorem l_X5_doIn_72 {S : Mem} {S' : MZ} (hS : tz S = S') : Lf tI (f_X5_doIn_72 S) = g_X5_doIn_72 S' := by
  unfold f_X5_doIn_72 g_X5_doIn_72
  exact (Lf_some rfl hS)
def g_X5_doIn (p1 : Nat) (S : MZ) : Option (Int × MZ) := (if kd p1 = (7, 10) then ((g_X2_poolAt 78 (zI S p1 2) S).bind fun q8 => (if q8.1 = 0 then (g_X5_doIn_27 q8.2) else ((g_X5_isLocked (zI q8.2 p1 2) q8.2).bind fun q21 => (if q21.1 = 0 then (if kd q8.1 = (3, 12) then ((g_X4_thingOn q8.1 (zI q21.2 p1 3) q21.2).bind fun q42 => ((g_X2_purseOf 78 (zI q21.2 9 5) q42.1 q42.2).bind fun q45 => ((g_X5_muchOf p1 q45.1 q45.2).bind fun q52 => (if q52.1 < 1 then (g_X5_doIn_72 q52.2) else (if q52.1 ≤ q45.1 then ((g_X11_lastTick (zI q52.2 p1 3) q52.2).bind fun q100 => ((g_X10_pour 78 (zI q52.2 9 5) (zI q52.2 p1 2) (zI q52.2 p1 3) q52.1 q100.1 1 q100.2).bind fun q104 => (some (1, (uL q104.2 9 8 (zL q104.2 4 11)))))) else (g_X5_doIn_72 q52.2)))))) else none) else (g_X5_doIn_27 q21.2))))) else none)
theorem l_X5_doIn {p1 : Nat} {p1' : Nat} (hp1 : p1 = p1') {S : Mem} {S' : MZ} (hS : tz S = S') : Lf tI (f_X5_doIn p1 S) = g_X5_doIn p1' S' := by
  unfold f_X5_doIn g_X5_doIn
  exact (Lf_if (c_kd hp1) (Lf_bind (l_X2_poolAt rfl (pI_g hS hp1 rfl) hS) (fun q8 => (Lf_if (cR_eq rfl rfl) (l_X5_doIn_27 rfl) (Lf_bind (l_X5_isLocked (pI_g rfl hp1 rfl) rfl) (fun q21 => (Lf_if (cI_eq rfl rfl) (Lf_if (c_kd rfl) (Lf_bind (l_X4_thingOn rfl (pI_g rfl hp1 rfl) rfl) (fun q42 => (Lf_bind (l_X2_purseOf rfl (pI_g rfl rfl rfl) rfl rfl) (fun q45 => (Lf_bind (l_X5_muchOf hp1 rfl rfl) (fun q52 => (Lf_if (cJ_lt rfl rfl) (l_X5_doIn_72 rfl) (Lf_if (cJ_le rfl (pJ_of rfl)) (Lf_bind (l_X11_lastTick (pI_g rfl hp1 rfl) rfl) (fun q100 => (Lf_bind (l_X10_pour rfl (pI_g rfl rfl rfl) (pI_g rfl hp1 rfl) (pI_g rfl hp1 rfl) rfl rfl rfl rfl) (fun q104 => (Lf_some rfl (pM_L rfl rfl rfl (pJ_g rfl rfl rfl))))))) (l_X5_doIn_72 rfl))))))))) rfl) (l_X5_doIn_27 rfl))))))) rfl)
def g_X10_drainStep_219 (v9 : Int) (s0 : Int) (s1 : Int) (S : MZ) : Option (Unit × MZ) := ((g_X10_arrive s1 s0 v9 S).bind fun q221 => (some ((), q221.2)))
theorem l_X10_drainStep_219 {v9 : Int32} {v9' : Int} (hv9 : tI v9 = v9') {s0 : Int32} {s0' : Int} (hs0 : tI s0 = s0') {s1 : Int32} {s1' : Int} (hs1 : tI s1 = s1') {S : Mem} {S' : MZ} (hS : tz S = S') : Lf tU (f_X10_drainStep_219 v9 s0 s1 S) = g_X10_drainStep_219 v9' s0' s1' S' := by
  unfold f_X10_drainStep_219 g_X10_drainStep_219
  exact (Lf_bind (l_X10_arrive hs1 hs0 hv9 hS) (fun q221 => (Lf_some rfl rfl)))
def g_X10_drainStep_159 (v1 : Int) (v2 : Int) (v4 : Int) (v5 : Int) (v9 : Int) (s0 : Int) (S : MZ) : Option (Unit × MZ) := ((g_X0_between s0 v5 v4 (zI S 4 5) 1 S).bind fun q170 => (if kd (zR q170.2 4 1) = (3, 12) then ((g_X0_upwards (w64 (q170.1 * (zI q170.2 (zR q170.2 4 1) 2))) (w32 (1000 - (zI q170.2 (zR q170.2 4 1) 2))) q170.2).bind fun q201 => ((g_X10_takeIn q170.1 q201.1 q201.2).bind fun q204 => (if v2 = v1 then (g_X10_drainStep_219 v9 1 v2 q204.2) else (g_X10_drainStep_219 v9 0 v2 q204.2)))) else none))
theorem l_X10_drainStep_159 {v1 : Int32} {v1' : Int} (hv1 : tI v1 = v1') {v2 : Int32} {v2' : Int} (hv2 : tI v2 = v2') {v4 : Int32} {v4' : Int} (hv4 : tI v4 = v4') {v5 : Int64} {v5' : Int} (hv5 : tJ v5 = v5') {v9 : Int32} {v9' : Int} (hv9 : tI v9 = v9') {s0 : Int32} {s0' : Int} (hs0 : tI s0 = s0') {S : Mem} {S' : MZ} (hS : tz S = S') : Lf tU (f_X10_drainStep_159 v1 v2 v4 v5 v9 s0 S) = g_X10_drainStep_159 v1' v2' v4' v5' v9' s0' S' := by
  unfold f_X10_drainStep_159 g_X10_drainStep_159
  exact (Lf_bind (l_X0_between hs0 hv5 (pJ_of hv4) (pJ_of (pI_g hS rfl rfl)) rfl hS) (fun q170 => (Lf_if (c_kd (pR_g rfl rfl rfl)) (Lf_bind (l_X0_upwards (pJ_mul rfl (pJ_of (pI_g rfl (pR_g rfl rfl rfl) rfl))) (pJ_of (pI_sub rfl (pI_g rfl (pR_g rfl rfl rfl) rfl))) rfl) (fun q201 => (Lf_bind (l_X10_takeIn rfl rfl rfl) (fun q204 => (Lf_if (cI_eq hv2 hv1) (l_X10_drainStep_219 hv9 rfl hv2 rfl) (l_X10_drainStep_219 hv9 rfl hv2 rfl)))))) rfl)))
def g_X10_drainStep_147 (v1 : Int) (v2 : Int) (v4 : Int) (v5 : Int) (v9 : Int) (S : MZ) : Option (Unit × MZ) := (if (zI S 4 3) = 0 then (g_X10_drainStep_159 v1 v2 v4 v5 v9 1 S) else (g_X10_drainStep_159 v1 v2 v4 v5 v9 0 S))
theorem l_X10_drainStep_147 {v1 : Int32} {v1' : Int} (hv1 : tI v1 = v1') {v2 : Int32} {v2' : Int} (hv2 : tI v2 = v2') {v4 : Int32} {v4' : Int} (hv4 : tI v4 = v4') {v5 : Int64} {v5' : Int} (hv5 : tJ v5 = v5') {v9 : Int32} {v9' : Int} (hv9 : tI v9 = v9') {S : Mem} {S' : MZ} (hS : tz S = S') : Lf tU (f_X10_drainStep_147 v1 v2 v4 v5 v9 S) = g_X10_drainStep_147 v1' v2' v4' v5' v9' S' := by
  unfold f_X10_drainStep_147 g_X10_drainStep_147
  exact (Lf_if (cI_eq (pI_g hS rfl rfl) rfl) (l_X10_drainStep_159 hv1 hv2 hv4 hv5 hv9 rfl hS) (l_X10_drainStep_159 hv1 hv2 hv4 hv5 hv9 rfl hS))
def g_X10_drainStep_122 (v1 : Int) (v2 : Int) (v4 : Int) (v5 : Int) (v9 : Int) (v10 : Int) (s0 : Int) (S : MZ) : Option (Unit × MZ) := (g_X10_drainStep_147 v1 v2 v4 v5 v9 (uL (uL (uI S 4 5 s0) 4 11 (w64 ((zL (uI S 4 5 s0) 4 11) + v10))) 4 10 (w64 ((zL (uL (uI S 4 5 s0) 4 11 (w64 ((zL (uI S 4 5 s0) 4 11) + v10))) 4 10) - v10))))
theorem l_X10_drainStep_122 {v1 : Int32} {v1' : Int} (hv1 : tI v1 = v1') {v2 : Int32} {v2' : Int} (hv2 : tI v2 = v2') {v4 : Int32} {v4' : Int} (hv4 : tI v4 = v4') {v5 : Int64} {v5' : Int} (hv5 : tJ v5 = v5') {v9 : Int32} {v9' : Int} (hv9 : tI v9 = v9') {v10 : Int64} {v10' : Int} (hv10 : tJ v10 = v10') {s0 : Int32} {s0' : Int} (hs0 : tI s0 = s0') {S : Mem} {S' : MZ} (hS : tz S = S') : Lf tU (f_X10_drainStep_122 v1 v2 v4 v5 v9 v10 s0 S) = g_X10_drainStep_122 v1' v2' v4' v5' v9' v10' s0' S' := by
  unfold f_X10_drainStep_122 g_X10_drainStep_122
  exact (l_X10_drainStep_147 hv1 hv2 hv4 hv5 hv9 (pM_L (pM_L (pM_I hS rfl rfl hs0) rfl rfl (pJ_add (pJ_g (pM_I hS rfl rfl hs0) rfl rfl) hv10)) rfl rfl (pJ_sub (pJ_g (pM_L (pM_I hS rfl rfl hs0) rfl rfl (pJ_add (pJ_g (pM_I hS rfl rfl hs0) rfl rfl) hv10)) rfl rfl) hv10)))
def g_X10_drainStep_92 (v1 : Int) (v2 : Int) (v3 : Int) (v4 : Int) (v5 : Int) (v9 : Int) (s0 : Int) (S : MZ) : Option (Unit × MZ) := (if v9 = 0 then ((g_X0_rootBehindOut (zI S 4 3) v5 (zI S 4 5) (zL S 4 10) S).bind fun q119 => (g_X10_drainStep_122 v1 v2 v4 v5 v9 s0 q119.1 q119.2)) else (g_X10_drainStep_122 v1 v2 v4 v5 v9 s0 v3 S))
theorem l_X10_drainStep_92 {v1 : Int32} {v1' : Int} (hv1 : tI v1 = v1') {v2 : Int32} {v2' : Int} (hv2 : tI v2 = v2') {v3 : Int32} {v3' : Int} (hv3 : tI v3 = v3') {v4 : Int32} {v4' : Int} (hv4 : tI v4 = v4') {v5 : Int64} {v5' : Int} (hv5 : tJ v5 = v5') {v9 : Int32} {v9' : Int} (hv9 : tI v9 = v9') {s0 : Int64} {s0' : Int} (hs0 : tJ s0 = s0') {S : Mem} {S' : MZ} (hS : tz S = S') : Lf tU (f_X10_drainStep_92 v1 v2 v3 v4 v5 v9 s0 S) = g_X10_drainStep_92 v1' v2' v3' v4' v5' v9' s0' S' := by
  unfold f_X10_drainStep_92 g_X10_drainStep_92
  exact (Lf_if (cI_eq hv9 rfl) (Lf_bind (l_X0_rootBehindOut (pI_g hS rfl rfl) hv5 (pJ_of (pI_g hS rfl rfl)) (pJ_g hS rfl rfl) hS) (fun q119 => (l_X10_drainStep_122 hv1 hv2 hv4 hv5 hv9 hs0 rfl rfl))) (l_X10_drainStep_122 hv1 hv2 hv4 hv5 hv9 hs0 hv3 hS))
def g_X10_drainStep_76 (v1 : Int) (v2 : Int) (v3 : Int) (v4 : Int) (v5 : Int) (v7 : Int) (s0 : Int) (S : MZ) : Option (Unit × MZ) := (if s0 = 0 then (g_X10_drainStep_92 v1 v2 v3 v4 v5 s0 (zL S 4 10) S) else (g_X10_drainStep_92 v1 v2 v3 v4 v5 s0 v7 S))
theorem l_X10_drainStep_76 {v1 : Int32} {v1' : Int} (hv1 : tI v1 = v1') {v2 : Int32} {v2' : Int} (hv2 : tI v2 = v2') {v3 : Int32} {v3' : Int} (hv3 : tI v3 = v3') {v4 : Int32} {v4' : Int} (hv4 : tI v4 = v4') {v5 : Int64} {v5' : Int} (hv5 : tJ v5 = v5') {v7 : Int64} {v7' : Int} (hv7 : tJ v7 = v7') {s0 : Int32} {s0' : Int} (hs0 : tI s0 = s0') {S : Mem} {S' : MZ} (hS : tz S = S') : Lf tU (f_X10_drainStep_76 v1 v2 v3 v4 v5 v7 s0 S) = g_X10_drainStep_76 v1' v2' v3' v4' v5' v7' s0' S' := by
  unfold f_X10_drainStep_76 g_X10_drainStep_76
  exact (Lf_if (cI_eq hs0 rfl) (l_X10_drainStep_92 hv1 hv2 hv3 hv4 hv5 hs0 (pJ_g hS rfl rfl) hS) (l_X10_drainStep_92 hv1 hv2 hv3 hv4 hv5 hs0 hv7 hS))
def g_X10_drainStep_46 (v1 : Int) (v2 : Int) (v3 : Int) (v4 : Int) (v5 : Int) (s0 : Int) (S : MZ) : Option (Unit × MZ) := ((g_X0_between s0 v5 (zI S 4 5) v3 0 S).bind fun q56 => (if (zL q56.2 4 10) < q56.1 then (g_X10_drainStep_76 v1 v2 v3 v4 v5 q56.1 0 q56.2) else (g_X10_drainStep_76 v1 v2 v3 v4 v5 q56.1 1 q56.2)))
theorem l_X10_drainStep_46 {v1 : Int32} {v1' : Int} (hv1 : tI v1 = v1') {v2 : Int32} {v2' : Int} (hv2 : tI v2 = v2') {v3 : Int32} {v3' : Int} (hv3 : tI v3 = v3') {v4 : Int32} {v4' : Int} (hv4 : tI v4 = v4') {v5 : Int64} {v5' : Int} (hv5 : tJ v5 = v5') {s0 : Int32} {s0' : Int} (hs0 : tI s0 = s0') {S : Mem} {S' : MZ} (hS : tz S = S') : Lf tU (f_X10_drainStep_46 v1 v2 v3 v4 v5 s0 S) = g_X10_drainStep_46 v1' v2' v3' v4' v5' s0' S' := by
  unfold f_X10_drainStep_46 g_X10_drainStep_46
  exact (Lf_bind (l_X0_between hs0 hv5 (pJ_of (pI_g hS rfl rfl)) (pJ_of hv3) rfl hS) (fun q56 => (Lf_if (cJ_lt (pJ_g rfl rfl rfl) rfl) (l_X10_drainStep_76 hv1 hv2 hv3 hv4 hv5 rfl rfl rfl) (l_X10_drainStep_76 hv1 hv2 hv3 hv4 hv5 rfl rfl rfl))))
def g_X10_drainStep_17 (v1 : Int) (v2 : Int) (v3 : Int) (v4 : Int) (S : MZ) : Option (Unit × MZ) := (if kd (zR S 4 0) = (1, 9) then ((g_X2_liquidityAt (zR S 4 0) (zI S 4 2) (zI S 4 8) S).bind fun q29 => (if (zI q29.2 4 3) = 0 then (g_X10_drainStep_46 v1 v2 v3 v4 q29.1 0 q29.2) else (g_X10_drainStep_46 v1 v2 v3 v4 q29.1 1 q29.2))) else none)
theorem l_X10_drainStep_17 {v1 : Int32} {v1' : Int} (hv1 : tI v1 = v1') {v2 : Int32} {v2' : Int} (hv2 : tI v2 = v2') {v3 : Int32} {v3' : Int} (hv3 : tI v3 = v3') {v4 : Int32} {v4' : Int} (hv4 : tI v4 = v4') {S : Mem} {S' : MZ} (hS : tz S = S') : Lf tU (f_X10_drainStep_17 v1 v2 v3 v4 S) = g_X10_drainStep_17 v1' v2' v3' v4' S' := by
  unfold f_X10_drainStep_17 g_X10_drainStep_17
  exact (Lf_if (c_kd (pR_g hS rfl rfl)) (Lf_bind (l_X2_liquidityAt (pR_g hS rfl rfl) (pI_g hS rfl rfl) (pI_g hS rfl rfl) hS) (fun q29 => (Lf_if (cI_eq (pI_g rfl rfl rfl) rfl) (l_X10_drainStep_46 hv1 hv2 hv3 hv4 rfl rfl rfl) (l_X10_drainStep_46 hv1 hv2 hv3 hv4 rfl rfl rfl)))) rfl)
def g_X10_drainStep (p1 : Int) (S : MZ) : Option (Unit × MZ) := ((g_X10_aimBefore p1 S).bind fun q2 => ((g_X0_rootAt q2.1 q2.2).bind fun q7 => (g_X10_drainStep_17 p1 q2.1 q7.1 (zI q7.2 4 5) q7.2)))
theorem l_X10_drainStep {p1 : Int32} {p1' : Int} (hp1 : tI p1 = p1') {S : Mem} {S' : MZ} (hS : tz S = S') : Lf tU (f_X10_drainStep p1 S) = g_X10_drainStep p1' S' := by
  unfold f_X10_drainStep g_X10_drainStep
  exact (Lf_bind (l_X10_aimBefore hp1 hS) (fun q2 => (Lf_bind (l_X0_rootAt rfl rfl) (fun q7 => (l_X10_drainStep_17 hp1 rfl rfl (pI_g rfl rfl rfl) rfl)))))
def g_X10_drain_92 (k28 : Int → Int → Int → MZ → Option (Unit × MZ)) (v2 : Int) (v8 : Int) (v9 : Int) (S : MZ) : Option (Unit × MZ) := (k28 v2 v8 (w32 (v9 + 1)) S)
theorem l_X10_drain_92 {k28 : Int32 → Int32 → Int32 → Mem → Option (Unit × Mem)} {k28' : Int → Int → Int → MZ → Option (Unit × MZ)} (hk28 : ∀ {x0 : Int32} {x1 : Int32} {x2 : Int32} {x3 : Mem} {y0 : Int} {y1 : Int} {y2 : Int} {y3 : MZ}, tI x0 = y0 → tI x1 = y1 → tI x2 = y2 → tz x3 = y3 → Lf tU (k28 x0 x1 x2 x3) = k28' y0 y1 y2 y3) {v2 : Int32} {v2' : Int} (hv2 : tI v2 = v2') {v8 : Int32} {v8' : Int} (hv8 : tI v8 = v8') {v9 : Int32} {v9' : Int} (hv9 : tI v9 = v9') {S : Mem} {S' : MZ} (hS : tz S = S') : Lf tU (f_X10_drain_92 k28 v2 v8 v9 S) = g_X10_drain_92 k28' v2' v8' v9' S' := by
  unfold f_X10_drain_92 g_X10_drain_92
  exact (hk28 hv2 hv8 (pI_add hv9 rfl) hS)
def g_X10_drain_98 (v2 : Int) (S : MZ) : Option (Unit × MZ) := ((g_X10_finish v2 S).bind fun q100 => (some ((), q100.2)))
theorem l_X10_drain_98 {v2 : Int32} {v2' : Int} (hv2 : tI v2 = v2') {S : Mem} {S' : MZ} (hS : tz S = S') : Lf tU (f_X10_drain_98 v2 S) = g_X10_drain_98 v2' S' := by
  unfold f_X10_drain_98 g_X10_drain_98
  exact (Lf_bind (l_X10_finish hv2 hS) (fun q100 => (Lf_some rfl rfl)))
def g_X10_drain_28B (k28 : Int → Int → Int → MZ → Option (Unit × MZ)) (v2 : Int) (v8 : Int) (v9 : Int) (S : MZ) : Option (Unit × MZ) := (if 1000 ≤ v9 then (g_X10_drain_98 v2 S) else (if (zL S 4 10) ≤ 0 then (g_X10_drain_98 v2 S) else (if (zI S 4 6) = 0 then ((g_X10_drainStep v8 S).bind fun q55 => (if (zI q55.2 4 4) = 0 then (g_X10_drain_92 k28 v2 v8 v9 q55.2) else (if (zI q55.2 4 7) = (-1) then (g_X10_drain_92 k28 v2 v8 v9 q55.2) else (if kd (zR q55.2 4 0) = (1, 9) then ((g_X2_dropAt (zR q55.2 4 0) (zI q55.2 4 2) (zI q55.2 4 3) (zI q55.2 4 7) q55.2).bind fun q89 => (g_X10_drain_92 k28 v2 v8 v9 q89.2)) else none)))) else (g_X10_drain_98 v2 S))))
theorem l_X10_drain_28B {k28 : Int32 → Int32 → Int32 → Mem → Option (Unit × Mem)} {k28' : Int → Int → Int → MZ → Option (Unit × MZ)} (hk28 : ∀ {x0 : Int32} {x1 : Int32} {x2 : Int32} {x3 : Mem} {y0 : Int} {y1 : Int} {y2 : Int} {y3 : MZ}, tI x0 = y0 → tI x1 = y1 → tI x2 = y2 → tz x3 = y3 → Lf tU (k28 x0 x1 x2 x3) = k28' y0 y1 y2 y3) {v2 : Int32} {v2' : Int} (hv2 : tI v2 = v2') {v8 : Int32} {v8' : Int} (hv8 : tI v8 = v8') {v9 : Int32} {v9' : Int} (hv9 : tI v9 = v9') {S : Mem} {S' : MZ} (hS : tz S = S') : Lf tU (f_X10_drain_28B k28 v2 v8 v9 S) = g_X10_drain_28B k28' v2' v8' v9' S' := by
  unfold f_X10_drain_28B g_X10_drain_28B
  exact (Lf_if (cI_le rfl hv9) (l_X10_drain_98 hv2 hS) (Lf_if (cJ_le (pJ_g hS rfl rfl) rfl) (l_X10_drain_98 hv2 hS) (Lf_if (cI_eq (pI_g hS rfl rfl) rfl) (Lf_bind (l_X10_drainStep hv8 hS) (fun q55 => (Lf_if (cI_eq (pI_g rfl rfl rfl) rfl) (l_X10_drain_92 hk28 hv2 hv8 hv9 rfl) (Lf_if (cI_eq (pI_g rfl rfl rfl) rfl) (l_X10_drain_92 hk28 hv2 hv8 hv9 rfl) (Lf_if (c_kd (pR_g rfl rfl rfl)) (Lf_bind (l_X2_dropAt (pR_g rfl rfl rfl) (pI_g rfl rfl rfl) (pI_g rfl rfl rfl) (pI_g rfl rfl rfl) rfl) (fun q89 => (l_X10_drain_92 hk28 hv2 hv8 hv9 rfl))) rfl))))) (l_X10_drain_98 hv2 hS))))
def g_X10_drain_28 : Nat → Int → Int → Int → MZ → Option (Unit × MZ)
  | 0 => fun _ _ _ _ => none
  | n + 1 => g_X10_drain_28B (g_X10_drain_28 n)
theorem l_X10_drain_28 : ∀ (n : Nat) {x0 : Int32} {x1 : Int32} {x2 : Int32} {x3 : Mem} {y0 : Int} {y1 : Int} {y2 : Int} {y3 : MZ}, tI x0 = y0 → tI x1 = y1 → tI x2 = y2 → tz x3 = y3 → Lf tU (f_X10_drain_28 n x0 x1 x2 x3) = g_X10_drain_28 n y0 y1 y2 y3
  | 0, _, _, _, _, _, _, _, _, _, _, _, _ => rfl
  | n + 1, _, _, _, _, _, _, _, _, e0, e1, e2, e3 => l_X10_drain_28B (fun de0 de1 de2 de3 => l_X10_drain_28 n de0 de1 de2 de3) e0 e1 e2 e3
def g_X10_drain (p1 : Nat) (p2 : Int) (p3 : Int) (p4 : Int) (p5 : Int) (p7 : Int) (S : MZ) : Option (Unit × MZ) := ((g_X10_start p1 p3 p4 p5 p7 S).bind fun q9 => (if q9.1 = 0 then (some ((), q9.2)) else ((g_X11_lastTick (zI q9.2 4 3) q9.2).bind fun q20 => (g_X10_drain_28 100000 p2 q20.1 0 q20.2))))
theorem l_X10_drain {p1 : Nat} {p1' : Nat} (hp1 : p1 = p1') {p2 : Int32} {p2' : Int} (hp2 : tI p2 = p2') {p3 : Int32} {p3' : Int} (hp3 : tI p3 = p3') {p4 : Int32} {p4' : Int} (hp4 : tI p4 = p4') {p5 : Int64} {p5' : Int} (hp5 : tJ p5 = p5') {p7 : Int32} {p7' : Int} (hp7 : tI p7 = p7') {S : Mem} {S' : MZ} (hS : tz S = S') : Lf tU (f_X10_drain p1 p2 p3 p4 p5 p7 S) = g_X10_drain p1' p2' p3' p4' p5' p7' S' := by
  unfold f_X10_drain g_X10_drain
  exact (Lf_bind (l_X10_start hp1 hp3 hp4 hp5 hp7 hS) (fun q9 => (Lf_if (cI_eq rfl rfl) (Lf_some rfl rfl) (Lf_bind (l_X11_lastTick (pI_g rfl rfl rfl) rfl) (fun q20 => (l_X10_drain_28 100000 hp2 rfl rfl rfl))))))
def g_X5_doOut_27 (S : MZ) : Option (Int × MZ) := (some (0, S))
theorem l_X5_doOut_27 {S : Mem} {S' : MZ} (hS : tz S = S') : Lf tI (f_X5_doOut_27 S) = g_X5_doOut_27 S' := by
  unfold f_X5_doOut_27 g_X5_doOut_27
  exact (Lf_some rfl hS)
def g_X5_doOut_82 (S : MZ) : Option (Int × MZ) := (some (0, S))
theorem l_X5_doOut_82 {S : Mem} {S' : MZ} (hS : tz S = S') : Lf tI (f_X5_doOut_82 S) = g_X5_doOut_82 S' := by
  unfold f_X5_doOut_82 g_X5_doOut_82
  exact (Lf_some rfl hS)
def g_X5_doOut_151 (s0 : Int) (S : MZ) : Option (Int × MZ) := (if (s0 = 0 ∨ s0 = 1) then (some (s0, S)) else none)
theorem l_X5_doOut_151 {s0 : Int32} {s0' : Int} (hs0 : tI s0 = s0') {S : Mem} {S' : MZ} (hS : tz S = S') : Lf tI (f_X5_doOut_151 s0 S) = g_X5_doOut_151 s0' S' := by
  unfold f_X5_doOut_151 g_X5_doOut_151
  exact (Lf_if (c_isB hs0) (Lf_some hs0 hS) rfl)
def g_X5_doOut_150 (S : MZ) : Option (Int × MZ) := (g_X5_doOut_151 0 S)
theorem l_X5_doOut_150 {S : Mem} {S' : MZ} (hS : tz S = S') : Lf tI (f_X5_doOut_150 S) = g_X5_doOut_150 S' := by
  unfold f_X5_doOut_150 g_X5_doOut_150
  exact (l_X5_doOut_151 rfl hS)
def g_X5_doOut (p1 : Nat) (S : MZ) : Option (Int × MZ) := (if kd p1 = (7, 10) then ((g_X2_poolAt 78 (zI S p1 2) S).bind fun q8 => (if q8.1 = 0 then (g_X5_doOut_27 q8.2) else ((g_X5_isLocked (zI q8.2 p1 2) q8.2).bind fun q21 => (if q21.1 = 0 then (if kd q8.1 = (3, 12) then ((g_X4_thingOn q8.1 (zI q21.2 p1 3) q21.2).bind fun q42 => ((g_X2_purseOf 78 (zI q21.2 9 5) q42.1 q42.2).bind fun q45 => ((g_X4_heldOn q8.1 (w32 (1 - (zI q45.2 p1 3))) q45.2).bind fun q58 => ((g_X5_muchOf p1 q58.1 q58.2).bind fun q61 => (if q61.1 < 1 then (g_X5_doOut_82 q61.2) else (if q61.1 ≤ 9999999 then ((g_X10_drain 78 (zI q61.2 9 5) (zI q61.2 p1 2) (zI q61.2 p1 3) q61.1 1 q61.2).bind fun q107 => (if (zL (uL q107.2 9 8 (zL q107.2 4 11)) 4 10) = 0 then (if q45.1 < (zL (uL q107.2 9 8 (zL q107.2 4 11)) 4 12) then (g_X5_doOut_150 (uL q107.2 9 8 (zL q107.2 4 11))) else (g_X5_doOut_151 1 (uL q107.2 9 8 (zL q107.2 4 11)))) else (g_X5_doOut_150 (uL q107.2 9 8 (zL q107.2 4 11))))) else (g_X5_doOut_82 q61.2))))))) else none) else (g_X5_doOut_27 q21.2))))) else none)
theorem l_X5_doOut {p1 : Nat} {p1' : Nat} (hp1 : p1 = p1') {S : Mem} {S' : MZ} (hS : tz S = S') : Lf tI (f_X5_doOut p1 S) = g_X5_doOut p1' S' := by
  unfold f_X5_doOut g_X5_doOut
  exact (Lf_if (c_kd hp1) (Lf_bind (l_X2_poolAt rfl (pI_g hS hp1 rfl) hS) (fun q8 => (Lf_if (cR_eq rfl rfl) (l_X5_doOut_27 rfl) (Lf_bind (l_X5_isLocked (pI_g rfl hp1 rfl) rfl) (fun q21 => (Lf_if (cI_eq rfl rfl) (Lf_if (c_kd rfl) (Lf_bind (l_X4_thingOn rfl (pI_g rfl hp1 rfl) rfl) (fun q42 => (Lf_bind (l_X2_purseOf rfl (pI_g rfl rfl rfl) rfl rfl) (fun q45 => (Lf_bind (l_X4_heldOn rfl (pI_sub rfl (pI_g rfl hp1 rfl)) rfl) (fun q58 => (Lf_bind (l_X5_muchOf hp1 rfl rfl) (fun q61 => (Lf_if (cJ_lt rfl rfl) (l_X5_doOut_82 rfl) (Lf_if (cJ_le rfl rfl) (Lf_bind (l_X10_drain rfl (pI_g rfl rfl rfl) (pI_g rfl hp1 rfl) (pI_g rfl hp1 rfl) rfl rfl rfl) (fun q107 => (Lf_if (cJ_eq (pJ_g (pM_L rfl rfl rfl (pJ_g rfl rfl rfl)) rfl rfl) rfl) (Lf_if (cJ_lt (pJ_of rfl) (pJ_g (pM_L rfl rfl rfl (pJ_g rfl rfl rfl)) rfl rfl)) (l_X5_doOut_150 (pM_L rfl rfl rfl (pJ_g rfl rfl rfl))) (l_X5_doOut_151 rfl (pM_L rfl rfl rfl (pJ_g rfl rfl rfl)))) (l_X5_doOut_150 (pM_L rfl rfl rfl (pJ_g rfl rfl rfl)))))) (l_X5_doOut_82 rfl))))))))))) rfl) (l_X5_doOut_27 rfl))))))) rfl)
def g_X5_doDrop_49 (S : MZ) : Option (Int × MZ) := (some (0, S))
theorem l_X5_doDrop_49 {S : Mem} {S' : MZ} (hS : tz S = S') : Lf tI (f_X5_doDrop_49 S) = g_X5_doDrop_49 S' := by
  unfold f_X5_doDrop_49 g_X5_doDrop_49
  exact (Lf_some rfl hS)
def g_X5_doDrop (p1 : Nat) (S : MZ) : Option (Int × MZ) := (if kd p1 = (7, 10) then ((g_X2_findStake 78 (zI S 9 5) (zI S p1 2) (zI S p1 4) (zI S p1 5) 0 S).bind fun q21 => ((g_X2_stakeAt 78 q21.1 q21.2).bind fun q30 => (if q30.1 = 0 then (g_X5_doDrop_49 q30.2) else ((g_X5_isLocked (zI q30.2 p1 2) q30.2).bind fun q43 => (if q43.1 = 0 then (if kd q30.1 = (6, 8) then ((g_X2_withdraw 78 q21.1 (zI q43.2 q30.1 5) q43.2).bind fun q60 => (some (1, q60.2))) else none) else (g_X5_doDrop_49 q43.2)))))) else none)
theorem l_X5_doDrop {p1 : Nat} {p1' : Nat} (hp1 : p1 = p1') {S : Mem} {S' : MZ} (hS : tz S = S') : Lf tI (f_X5_doDrop p1 S) = g_X5_doDrop p1' S' := by
  unfold f_X5_doDrop g_X5_doDrop
  exact (Lf_if (c_kd hp1) (Lf_bind (l_X2_findStake rfl (pI_g hS rfl rfl) (pI_g hS hp1 rfl) (pI_g hS hp1 rfl) (pI_g hS hp1 rfl) rfl hS) (fun q21 => (Lf_bind (l_X2_stakeAt rfl rfl rfl) (fun q30 => (Lf_if (cR_eq rfl rfl) (l_X5_doDrop_49 rfl) (Lf_bind (l_X5_isLocked (pI_g rfl hp1 rfl) rfl) (fun q43 => (Lf_if (cI_eq rfl rfl) (Lf_if (c_kd rfl) (Lf_bind (l_X2_withdraw rfl rfl (pI_g rfl rfl rfl) rfl) (fun q60 => (Lf_some rfl rfl))) rfl) (l_X5_doDrop_49 rfl))))))))) rfl)
def g_X5_canOpen_24 (s0 : Int) (S : MZ) : Option (Int × MZ) := (if (s0 = 0 ∨ s0 = 1) then (some (s0, S)) else none)
theorem l_X5_canOpen_24 {s0 : Int32} {s0' : Int} (hs0 : tI s0 = s0') {S : Mem} {S' : MZ} (hS : tz S = S') : Lf tI (f_X5_canOpen_24 s0 S) = g_X5_canOpen_24 s0' S' := by
  unfold f_X5_canOpen_24 g_X5_canOpen_24
  exact (Lf_if (c_isB hs0) (Lf_some hs0 hS) rfl)
def g_X5_canOpen_23 (S : MZ) : Option (Int × MZ) := (g_X5_canOpen_24 0 S)
theorem l_X5_canOpen_23 {S : Mem} {S' : MZ} (hS : tz S = S') : Lf tI (f_X5_canOpen_23 S) = g_X5_canOpen_23 S' := by
  unfold f_X5_canOpen_23 g_X5_canOpen_23
  exact (l_X5_canOpen_24 rfl hS)
def g_X5_canOpen (S : MZ) : Option (Int × MZ) := (if (zI S 9 7) < 0 then (g_X5_canOpen_23 S) else (if 4 ≤ (zI S 9 7) then (g_X5_canOpen_23 S) else (g_X5_canOpen_24 1 S)))
theorem l_X5_canOpen {S : Mem} {S' : MZ} (hS : tz S = S') : Lf tI (f_X5_canOpen S) = g_X5_canOpen S' := by
  unfold f_X5_canOpen g_X5_canOpen
  exact (Lf_if (cI_lt (pI_g hS rfl rfl) rfl) (l_X5_canOpen_23 hS) (Lf_if (cI_le rfl (pI_g hS rfl rfl)) (l_X5_canOpen_23 hS) (l_X5_canOpen_24 rfl hS)))
def g_X5_openBracket_52 (S : MZ) : Option (Unit × MZ) := (some ((), S))
theorem l_X5_openBracket_52 {S : Mem} {S' : MZ} (hS : tz S = S') : Lf tU (f_X5_openBracket_52 S) = g_X5_openBracket_52 S' := by
  unfold f_X5_openBracket_52 g_X5_openBracket_52
  exact (Lf_some rfl hS)
def g_X5_openBracket_42 (S : MZ) : Option (Unit × MZ) := (g_X5_openBracket_52 (uI S 9 7 (w32 ((zI S 9 7) + 1))))
theorem l_X5_openBracket_42 {S : Mem} {S' : MZ} (hS : tz S = S') : Lf tU (f_X5_openBracket_42 S) = g_X5_openBracket_42 S' := by
  unfold f_X5_openBracket_42 g_X5_openBracket_42
  exact (l_X5_openBracket_52 (pM_I hS rfl rfl (pI_add (pI_g hS rfl rfl) rfl)))
def g_X5_openBracket (p1 : Int) (p2 : Int) (S : MZ) : Option (Unit × MZ) := ((g_X5_canOpen S).bind fun q1 => (if q1.1 = 0 then (g_X5_openBracket_52 q1.2) else (if (0 ≤ (zI q1.2 9 7) ∧ (zI q1.2 9 7) < ((4 : Nat) : Int)) then (if (0 ≤ (zI (uI q1.2 10 ((zI q1.2 9 7)).toNat (w32 ((zI q1.2 9 6) - 1))) 9 7) ∧ (zI (uI q1.2 10 ((zI q1.2 9 7)).toNat (w32 ((zI q1.2 9 6) - 1))) 9 7) < ((4 : Nat) : Int)) then (if (0 ≤ (zI (uI (uI q1.2 10 ((zI q1.2 9 7)).toNat (w32 ((zI q1.2 9 6) - 1))) 11 ((zI (uI q1.2 10 ((zI q1.2 9 7)).toNat (w32 ((zI q1.2 9 6) - 1))) 9 7)).toNat p1) 9 7) ∧ (zI (uI (uI q1.2 10 ((zI q1.2 9 7)).toNat (w32 ((zI q1.2 9 6) - 1))) 11 ((zI (uI q1.2 10 ((zI q1.2 9 7)).toNat (w32 ((zI q1.2 9 6) - 1))) 9 7)).toNat p1) 9 7) < ((4 : Nat) : Int)) then (g_X5_openBracket_42 (uI (uI (uI q1.2 10 ((zI q1.2 9 7)).toNat (w32 ((zI q1.2 9 6) - 1))) 11 ((zI (uI q1.2 10 ((zI q1.2 9 7)).toNat (w32 ((zI q1.2 9 6) - 1))) 9 7)).toNat p1) 12 ((zI (uI (uI q1.2 10 ((zI q1.2 9 7)).toNat (w32 ((zI q1.2 9 6) - 1))) 11 ((zI (uI q1.2 10 ((zI q1.2 9 7)).toNat (w32 ((zI q1.2 9 6) - 1))) 9 7)).toNat p1) 9 7)).toNat p2)) else none) else none) else none)))
theorem l_X5_openBracket {p1 : Int32} {p1' : Int} (hp1 : tI p1 = p1') {p2 : Int32} {p2' : Int} (hp2 : tI p2 = p2') {S : Mem} {S' : MZ} (hS : tz S = S') : Lf tU (f_X5_openBracket p1 p2 S) = g_X5_openBracket p1' p2' S' := by
  unfold f_X5_openBracket g_X5_openBracket
  exact (Lf_bind (l_X5_canOpen hS) (fun q1 => (Lf_if (cI_eq rfl rfl) (l_X5_openBracket_52 rfl) (Lf_if (c_inb (pI_g rfl rfl rfl) rfl) (Lf_if (c_inb (pI_g (pM_I rfl rfl (pN_of (pI_g rfl rfl rfl)) (pI_sub (pI_g rfl rfl rfl) rfl)) rfl rfl) rfl) (Lf_if (c_inb (pI_g (pM_I (pM_I rfl rfl (pN_of (pI_g rfl rfl rfl)) (pI_sub (pI_g rfl rfl rfl) rfl)) rfl (pN_of (pI_g (pM_I rfl rfl (pN_of (pI_g rfl rfl rfl)) (pI_sub (pI_g rfl rfl rfl) rfl)) rfl rfl)) hp1) rfl rfl) rfl) (l_X5_openBracket_42 (pM_I (pM_I (pM_I rfl rfl (pN_of (pI_g rfl rfl rfl)) (pI_sub (pI_g rfl rfl rfl) rfl)) rfl (pN_of (pI_g (pM_I rfl rfl (pN_of (pI_g rfl rfl rfl)) (pI_sub (pI_g rfl rfl rfl) rfl)) rfl rfl)) hp1) rfl (pN_of (pI_g (pM_I (pM_I rfl rfl (pN_of (pI_g rfl rfl rfl)) (pI_sub (pI_g rfl rfl rfl) rfl)) rfl (pN_of (pI_g (pM_I rfl rfl (pN_of (pI_g rfl rfl rfl)) (pI_sub (pI_g rfl rfl rfl) rfl)) rfl rfl)) hp1) rfl rfl)) hp2)) rfl) rfl) rfl))))
def g_X5_doLend_47 (S : MZ) : Option (Int × MZ) := (some (0, S))
theorem l_X5_doLend_47 {S : Mem} {S' : MZ} (hS : tz S = S') : Lf tI (f_X5_doLend_47 S) = g_X5_doLend_47 S' := by
  unfold f_X5_doLend_47 g_X5_doLend_47
  exact (Lf_some rfl hS)
def g_X5_doLend_88 (S : MZ) : Option (Int × MZ) := (some (0, S))
theorem l_X5_doLend_88 {S : Mem} {S' : MZ} (hS : tz S = S') : Lf tI (f_X5_doLend_88 S) = g_X5_doLend_88 S' := by
  unfold f_X5_doLend_88 g_X5_doLend_88
  exact (Lf_some rfl hS)
def g_X5_doLend (p1 : Nat) (S : MZ) : Option (Int × MZ) := (if kd p1 = (7, 10) then ((g_X2_poolAt 78 (zI S p1 2) S).bind fun q8 => (if q8.1 = 0 then (g_X5_doLend_47 q8.2) else ((g_X5_isLocked (zI q8.2 p1 2) q8.2).bind fun q21 => (if q21.1 = 0 then (if kd q8.1 = (3, 12) then ((g_X2_liquidityAt 78 (zI q21.2 p1 2) (zI q21.2 q8.1 6) q21.2).bind fun q39 => (if 1 ≤ q39.1 then ((g_X4_heldOn q8.1 (zI q39.2 p1 3) q39.2).bind fun q54 => ((g_X5_muchOf p1 q54.1 q54.2).bind fun q61 => (if q61.1 < 1 then (g_X5_doLend_88 q61.2) else (if q54.1 < q61.1 then (g_X5_doLend_88 q61.2) else ((g_X5_canOpen q61.2).bind fun q82 => (if q82.1 = 0 then (g_X5_doLend_88 q82.2) else ((g_X2_payOut 78 q8.1 (zI q82.2 p1 3) (zI q82.2 9 5) (w32 q61.1) q82.2).bind fun q106 => ((g_X5_setLocked (zI q106.2 p1 2) 1 q106.2).bind fun q115 => ((g_X5_openBracket 0 (w32 q61.1) q115.2).bind fun q123 => (some (1, q123.2))))))))))) else (g_X5_doLend_47 q39.2))) else none) else (g_X5_doLend_47 q21.2))))) else none)
theorem l_X5_doLend {p1 : Nat} {p1' : Nat} (hp1 : p1 = p1') {S : Mem} {S' : MZ} (hS : tz S = S') : Lf tI (f_X5_doLend p1 S) = g_X5_doLend p1' S' := by
  unfold f_X5_doLend g_X5_doLend
  exact (Lf_if (c_kd hp1) (Lf_bind (l_X2_poolAt rfl (pI_g hS hp1 rfl) hS) (fun q8 => (Lf_if (cR_eq rfl rfl) (l_X5_doLend_47 rfl) (Lf_bind (l_X5_isLocked (pI_g rfl hp1 rfl) rfl) (fun q21 => (Lf_if (cI_eq rfl rfl) (Lf_if (c_kd rfl) (Lf_bind (l_X2_liquidityAt rfl (pI_g rfl hp1 rfl) (pI_g rfl rfl rfl) rfl) (fun q39 => (Lf_if (cJ_le rfl rfl) (Lf_bind (l_X4_heldOn rfl (pI_g rfl hp1 rfl) rfl) (fun q54 => (Lf_bind (l_X5_muchOf hp1 rfl rfl) (fun q61 => (Lf_if (cJ_lt rfl rfl) (l_X5_doLend_88 rfl) (Lf_if (cJ_lt (pJ_of rfl) rfl) (l_X5_doLend_88 rfl) (Lf_bind (l_X5_canOpen rfl) (fun q82 => (Lf_if (cI_eq rfl rfl) (l_X5_doLend_88 rfl) (Lf_bind (l_X2_payOut rfl rfl (pI_g rfl hp1 rfl) (pI_g rfl rfl rfl) (pI_of rfl) rfl) (fun q106 => (Lf_bind (l_X5_setLocked (pI_g rfl hp1 rfl) rfl rfl) (fun q115 => (Lf_bind (l_X5_openBracket rfl (pI_of rfl) rfl) (fun q123 => (Lf_some rfl rfl)))))))))))))))) (l_X5_doLend_47 rfl)))) rfl) (l_X5_doLend_47 rfl))))))) rfl)
def g_X5_doTimes (p1 : Nat) (S : MZ) : Option (Int × MZ) := (if kd p1 = (7, 10) then (if 1 ≤ (zI S p1 7) then ((g_X5_openBracket (zI S p1 7) 0 S).bind fun q24 => (some (1, q24.2))) else (some (1, (uI S 9 6 (zI S p1 9))))) else none)
theorem l_X5_doTimes {p1 : Nat} {p1' : Nat} (hp1 : p1 = p1') {S : Mem} {S' : MZ} (hS : tz S = S') : Lf tI (f_X5_doTimes p1 S) = g_X5_doTimes p1' S' := by
  unfold f_X5_doTimes g_X5_doTimes
  exact (Lf_if (c_kd hp1) (Lf_if (cI_le rfl (pI_g hS hp1 rfl)) (Lf_bind (l_X5_openBracket (pI_g hS hp1 rfl) rfl hS) (fun q24 => (Lf_some rfl rfl))) (Lf_some rfl (pM_I hS rfl rfl (pI_g hS hp1 rfl)))) rfl)
def g_X5_turn_309 (S : MZ) : Option (Unit × MZ) := (some ((), S))
theorem l_X5_turn_309 {S : Mem} {S' : MZ} (hS : tz S = S') : Lf tU (f_X5_turn_309 S) = g_X5_turn_309 S' := by
  unfold f_X5_turn_309 g_X5_turn_309
  exact (Lf_some rfl hS)
def g_X5_turn_299 (v2 : Nat) (v3 : Int) (S : MZ) : Option (Unit × MZ) := (if v3 = 0 then ((g_X5_fail v2 5 S).bind fun q306 => (g_X5_turn_309 q306.2)) else (g_X5_turn_309 S))
theorem l_X5_turn_299 {v2 : Nat} {v2' : Nat} (hv2 : v2 = v2') {v3 : Int32} {v3' : Int} (hv3 : tI v3 = v3') {S : Mem} {S' : MZ} (hS : tz S = S') : Lf tU (f_X5_turn_299 v2 v3 S) = g_X5_turn_299 v2' v3' S' := by
  unfold f_X5_turn_299 g_X5_turn_299
  exact (Lf_if (cI_eq hv3 rfl) (Lf_bind (l_X5_fail hv2 rfl hS) (fun q306 => (l_X5_turn_309 rfl))) (l_X5_turn_309 hS))
def g_X5_turn_226 (v2 : Nat) (s0 : Int) (S : MZ) : Option (Unit × MZ) := (g_X5_turn_299 v2 s0 S)
theorem l_X5_turn_226 {v2 : Nat} {v2' : Nat} (hv2 : v2 = v2') {s0 : Int32} {s0' : Int} (hs0 : tI s0 = s0') {S : Mem} {S' : MZ} (hS : tz S = S') : Lf tU (f_X5_turn_226 v2 s0 S) = g_X5_turn_226 v2' s0' S' := by
  unfold f_X5_turn_226 g_X5_turn_226
  exact (l_X5_turn_299 hv2 hs0 hS)
def g_X5_turn_225 (v2 : Nat) (S : MZ) : Option (Unit × MZ) := (g_X5_turn_226 v2 0 S)
theorem l_X5_turn_225 {v2 : Nat} {v2' : Nat} (hv2 : v2 = v2') {S : Mem} {S' : MZ} (hS : tz S = S') : Lf tU (f_X5_turn_225 v2 S) = g_X5_turn_225 v2' S' := by
  unfold f_X5_turn_225 g_X5_turn_225
  exact (l_X5_turn_226 hv2 rfl hS)
def g_X5_turn_280 (v2 : Nat) (s0 : Int) (S : MZ) : Option (Unit × MZ) := (g_X5_turn_299 v2 s0 S)
theorem l_X5_turn_280 {v2 : Nat} {v2' : Nat} (hv2 : v2 = v2') {s0 : Int32} {s0' : Int} (hs0 : tI s0 = s0') {S : Mem} {S' : MZ} (hS : tz S = S') : Lf tU (f_X5_turn_280 v2 s0 S) = g_X5_turn_280 v2' s0' S' := by
  unfold f_X5_turn_280 g_X5_turn_280
  exact (l_X5_turn_299 hv2 hs0 hS)
def g_X5_turn_279 (v2 : Nat) (S : MZ) : Option (Unit × MZ) := (g_X5_turn_280 v2 0 S)
theorem l_X5_turn_279 {v2 : Nat} {v2' : Nat} (hv2 : v2 = v2') {S : Mem} {S' : MZ} (hS : tz S = S') : Lf tU (f_X5_turn_279 v2 S) = g_X5_turn_279 v2' S' := by
  unfold f_X5_turn_279 g_X5_turn_279
  exact (l_X5_turn_280 hv2 rfl hS)
def g_X5_turn_63 (S : MZ) : Option (Unit × MZ) := ((g_X6_stepAt (zI S 9 6) S).bind fun q71 => (if q71.1 = 0 then (some ((), q71.2)) else (if (zI q71.2 9 0) < 100 then (if kd q71.1 = (7, 10) then (if (zI (uI (uI q71.2 9 0 (w32 ((zI q71.2 9 0) + 1))) 9 6 (w32 ((zI (uI q71.2 9 0 (w32 ((zI q71.2 9 0) + 1))) 9 6) + 1))) q71.1 0) = 0 then ((g_X5_doIn q71.1 (uI (uI q71.2 9 0 (w32 ((zI q71.2 9 0) + 1))) 9 6 (w32 ((zI (uI q71.2 9 0 (w32 ((zI q71.2 9 0) + 1))) 9 6) + 1)))).bind fun q162 => (g_X5_turn_299 q71.1 q162.1 q162.2)) else (if (zI (uI (uI q71.2 9 0 (w32 ((zI q71.2 9 0) + 1))) 9 6 (w32 ((zI (uI q71.2 9 0 (w32 ((zI q71.2 9 0) + 1))) 9 6) + 1))) q71.1 0) = 1 then ((g_X5_doOut q71.1 (uI (uI q71.2 9 0 (w32 ((zI q71.2 9 0) + 1))) 9 6 (w32 ((zI (uI q71.2 9 0 (w32 ((zI q71.2 9 0) + 1))) 9 6) + 1)))).bind fun q171 => (g_X5_turn_299 q71.1 q171.1 q171.2)) else (if (zI (uI (uI q71.2 9 0 (w32 ((zI q71.2 9 0) + 1))) 9 6 (w32 ((zI (uI q71.2 9 0 (w32 ((zI q71.2 9 0) + 1))) 9 6) + 1))) q71.1 0) = 2 then ((g_X5_isLocked (zI (uI (uI q71.2 9 0 (w32 ((zI q71.2 9 0) + 1))) 9 6 (w32 ((zI (uI q71.2 9 0 (w32 ((zI q71.2 9 0) + 1))) 9 6) + 1))) q71.1 2) (uI (uI q71.2 9 0 (w32 ((zI q71.2 9 0) + 1))) 9 6 (w32 ((zI (uI q71.2 9 0 (w32 ((zI q71.2 9 0) + 1))) 9 6) + 1)))).bind fun q183 => (if q183.1 = 0 then ((g_X2_addStake 78 (zI q183.2 9 5) (zI q183.2 q71.1 2) (zI q183.2 q71.1 4) (zI q183.2 q71.1 5) 0 (zI q183.2 q71.1 7) q183.2).bind fun q214 => (if q214.1 = (-1) then (g_X5_turn_225 q71.1 q214.2) else (g_X5_turn_226 q71.1 1 q214.2))) else (g_X5_turn_225 q71.1 q183.2))) else (if (zI (uI (uI q71.2 9 0 (w32 ((zI q71.2 9 0) + 1))) 9 6 (w32 ((zI (uI q71.2 9 0 (w32 ((zI q71.2 9 0) + 1))) 9 6) + 1))) q71.1 0) = 3 then ((g_X5_doDrop q71.1 (uI (uI q71.2 9 0 (w32 ((zI q71.2 9 0) + 1))) 9 6 (w32 ((zI (uI q71.2 9 0 (w32 ((zI q71.2 9 0) + 1))) 9 6) + 1)))).bind fun q232 => (g_X5_turn_299 q71.1 q232.1 q232.2)) else (if (zI (uI (uI q71.2 9 0 (w32 ((zI q71.2 9 0) + 1))) 9 6 (w32 ((zI (uI q71.2 9 0 (w32 ((zI q71.2 9 0) + 1))) 9 6) + 1))) q71.1 0) = 4 then ((g_X2_hasThing 78 (zI (uI (uI q71.2 9 0 (w32 ((zI q71.2 9 0) + 1))) 9 6 (w32 ((zI (uI q71.2 9 0 (w32 ((zI q71.2 9 0) + 1))) 9 6) + 1))) q71.1 6) (uI (uI q71.2 9 0 (w32 ((zI q71.2 9 0) + 1))) 9 6 (w32 ((zI (uI q71.2 9 0 (w32 ((zI q71.2 9 0) + 1))) 9 6) + 1)))).bind fun q247 => (if q247.1 = 0 then (g_X5_turn_279 q71.1 q247.2) else ((g_X2_purseOf 78 (zI q247.2 9 5) (zI q247.2 q71.1 6) q247.2).bind fun q265 => (if q265.1 < (zI q265.2 q71.1 7) then (g_X5_turn_279 q71.1 q265.2) else (g_X5_turn_280 q71.1 1 q265.2))))) else (if (zI (uI (uI q71.2 9 0 (w32 ((zI q71.2 9 0) + 1))) 9 6 (w32 ((zI (uI q71.2 9 0 (w32 ((zI q71.2 9 0) + 1))) 9 6) + 1))) q71.1 0) = 5 then ((g_X5_doLend q71.1 (uI (uI q71.2 9 0 (w32 ((zI q71.2 9 0) + 1))) 9 6 (w32 ((zI (uI q71.2 9 0 (w32 ((zI q71.2 9 0) + 1))) 9 6) + 1)))).bind fun q286 => (g_X5_turn_299 q71.1 q286.1 q286.2)) else ((g_X5_doTimes q71.1 (uI (uI q71.2 9 0 (w32 ((zI q71.2 9 0) + 1))) 9 6 (w32 ((zI (uI q71.2 9 0 (w32 ((zI q71.2 9 0) + 1))) 9 6) + 1)))).bind fun q295 => (g_X5_turn_299 q71.1 q295.1 q295.2)))))))) else none) else ((g_X5_fail q71.1 6 q71.2).bind fun q93 => (some ((), q93.2))))))
theorem l_X5_turn_63 {S : Mem} {S' : MZ} (hS : tz S = S') : Lf tU (f_X5_turn_63 S) = g_X5_turn_63 S' := by
  unfold f_X5_turn_63 g_X5_turn_63
  exact (Lf_bind (l_X6_stepAt (pI_g hS rfl rfl) hS) (fun q71 => (Lf_if (cR_eq rfl rfl) (Lf_some rfl rfl) (Lf_if (cI_lt (pI_g rfl rfl rfl) rfl) (Lf_if (c_kd rfl) (Lf_if (cI_eq (pI_g (pM_I (pM_I rfl rfl rfl (pI_add (pI_g rfl rfl rfl) rfl)) rfl rfl (pI_add (pI_g (pM_I rfl rfl rfl (pI_add (pI_g rfl rfl rfl) rfl)) rfl rfl) rfl)) rfl rfl) rfl) (Lf_bind (l_X5_doIn rfl (pM_I (pM_I rfl rfl rfl (pI_add (pI_g rfl rfl rfl) rfl)) rfl rfl (pI_add (pI_g (pM_I rfl rfl rfl (pI_add (pI_g rfl rfl rfl) rfl)) rfl rfl) rfl))) (fun q162 => (l_X5_turn_299 rfl rfl rfl))) (Lf_if (cI_eq (pI_g (pM_I (pM_I rfl rfl rfl (pI_add (pI_g rfl rfl rfl) rfl)) rfl rfl (pI_add (pI_g (pM_I rfl rfl rfl (pI_add (pI_g rfl rfl rfl) rfl)) rfl rfl) rfl)) rfl rfl) rfl) (Lf_bind (l_X5_doOut rfl (pM_I (pM_I rfl rfl rfl (pI_add (pI_g rfl rfl rfl) rfl)) rfl rfl (pI_add (pI_g (pM_I rfl rfl rfl (pI_add (pI_g rfl rfl rfl) rfl)) rfl rfl) rfl))) (fun q171 => (l_X5_turn_299 rfl rfl rfl))) (Lf_if (cI_eq (pI_g (pM_I (pM_I rfl rfl rfl (pI_add (pI_g rfl rfl rfl) rfl)) rfl rfl (pI_add (pI_g (pM_I rfl rfl rfl (pI_add (pI_g rfl rfl rfl) rfl)) rfl rfl) rfl)) rfl rfl) rfl) (Lf_bind (l_X5_isLocked (pI_g (pM_I (pM_I rfl rfl rfl (pI_add (pI_g rfl rfl rfl) rfl)) rfl rfl (pI_add (pI_g (pM_I rfl rfl rfl (pI_add (pI_g rfl rfl rfl) rfl)) rfl rfl) rfl)) rfl rfl) (pM_I (pM_I rfl rfl rfl (pI_add (pI_g rfl rfl rfl) rfl)) rfl rfl (pI_add (pI_g (pM_I rfl rfl rfl (pI_add (pI_g rfl rfl rfl) rfl)) rfl rfl) rfl))) (fun q183 => (Lf_if (cI_eq rfl rfl) (Lf_bind (l_X2_addStake rfl (pI_g rfl rfl rfl) (pI_g rfl rfl rfl) (pI_g rfl rfl rfl) (pI_g rfl rfl rfl) rfl (pI_g rfl rfl rfl) rfl) (fun q214 => (Lf_if (cI_eq rfl rfl) (l_X5_turn_225 rfl rfl) (l_X5_turn_226 rfl rfl rfl)))) (l_X5_turn_225 rfl rfl)))) (Lf_if (cI_eq (pI_g (pM_I (pM_I rfl rfl rfl (pI_add (pI_g rfl rfl rfl) rfl)) rfl rfl (pI_add (pI_g (pM_I rfl rfl rfl (pI_add (pI_g rfl rfl rfl) rfl)) rfl rfl) rfl)) rfl rfl) rfl) (Lf_bind (l_X5_doDrop rfl (pM_I (pM_I rfl rfl rfl (pI_add (pI_g rfl rfl rfl) rfl)) rfl rfl (pI_add (pI_g (pM_I rfl rfl rfl (pI_add (pI_g rfl rfl rfl) rfl)) rfl rfl) rfl))) (fun q232 => (l_X5_turn_299 rfl rfl rfl))) (Lf_if (cI_eq (pI_g (pM_I (pM_I rfl rfl rfl (pI_add (pI_g rfl rfl rfl) rfl)) rfl rfl (pI_add (pI_g (pM_I rfl rfl rfl (pI_add (pI_g rfl rfl rfl) rfl)) rfl rfl) rfl)) rfl rfl) rfl) (Lf_bind (l_X2_hasThing rfl (pI_g (pM_I (pM_I rfl rfl rfl (pI_add (pI_g rfl rfl rfl) rfl)) rfl rfl (pI_add (pI_g (pM_I rfl rfl rfl (pI_add (pI_g rfl rfl rfl) rfl)) rfl rfl) rfl)) rfl rfl) (pM_I (pM_I rfl rfl rfl (pI_add (pI_g rfl rfl rfl) rfl)) rfl rfl (pI_add (pI_g (pM_I rfl rfl rfl (pI_add (pI_g rfl rfl rfl) rfl)) rfl rfl) rfl))) (fun q247 => (Lf_if (cI_eq rfl rfl) (l_X5_turn_279 rfl rfl) (Lf_bind (l_X2_purseOf rfl (pI_g rfl rfl rfl) (pI_g rfl rfl rfl) rfl) (fun q265 => (Lf_if (cI_lt rfl (pI_g rfl rfl rfl)) (l_X5_turn_279 rfl rfl) (l_X5_turn_280 rfl rfl rfl))))))) (Lf_if (cI_eq (pI_g (pM_I (pM_I rfl rfl rfl (pI_add (pI_g rfl rfl rfl) rfl)) rfl rfl (pI_add (pI_g (pM_I rfl rfl rfl (pI_add (pI_g rfl rfl rfl) rfl)) rfl rfl) rfl)) rfl rfl) rfl) (Lf_bind (l_X5_doLend rfl (pM_I (pM_I rfl rfl rfl (pI_add (pI_g rfl rfl rfl) rfl)) rfl rfl (pI_add (pI_g (pM_I rfl rfl rfl (pI_add (pI_g rfl rfl rfl) rfl)) rfl rfl) rfl))) (fun q286 => (l_X5_turn_299 rfl rfl rfl))) (Lf_bind (l_X5_doTimes rfl (pM_I (pM_I rfl rfl rfl (pI_add (pI_g rfl rfl rfl) rfl)) rfl rfl (pI_add (pI_g (pM_I rfl rfl rfl (pI_add (pI_g rfl rfl rfl) rfl)) rfl rfl) rfl))) (fun q295 => (l_X5_turn_299 rfl rfl rfl))))))))) rfl) (Lf_bind (l_X5_fail rfl rfl rfl) (fun q93 => (Lf_some rfl rfl)))))))
def g_X5_turn_41 (s0 : Nat) (S : MZ) : Option (Unit × MZ) := (if s0 = 0 then (g_X5_turn_63 S) else (if kd s0 = (7, 10) then (if (zI S 9 6) < (zI S s0 9) then (g_X5_turn_63 S) else ((g_X5_closeBracket s0 S).bind fun q59 => (some ((), q59.2)))) else none))
theorem l_X5_turn_41 {s0 : Nat} {s0' : Nat} (hs0 : s0 = s0') {S : Mem} {S' : MZ} (hS : tz S = S') : Lf tU (f_X5_turn_41 s0 S) = g_X5_turn_41 s0' S' := by
  unfold f_X5_turn_41 g_X5_turn_41
  exact (Lf_if (cR_eq hs0 rfl) (l_X5_turn_63 hS) (Lf_if (c_kd hs0) (Lf_if (cI_lt (pI_g hS rfl rfl) (pI_g hS hs0 rfl)) (l_X5_turn_63 hS) (Lf_bind (l_X5_closeBracket hs0 hS) (fun q59 => (Lf_some rfl rfl)))) rfl))
def g_X5_turn_40 (S : MZ) : Option (Unit × MZ) := (g_X5_turn_41 0 S)
theorem l_X5_turn_40 {S : Mem} {S' : MZ} (hS : tz S = S') : Lf tU (f_X5_turn_40 S) = g_X5_turn_40 S' := by
  unfold f_X5_turn_40 g_X5_turn_40
  exact (l_X5_turn_41 rfl hS)
def g_X5_turn (S : MZ) : Option (Unit × MZ) := (if (zI S 9 7) ≤ 0 then (g_X5_turn_40 S) else (if 4 < (zI S 9 7) then (g_X5_turn_40 S) else (if (0 ≤ (w32 ((zI S 9 7) - 1)) ∧ (w32 ((zI S 9 7) - 1)) < ((4 : Nat) : Int)) then ((g_X6_stepAt (zI S 10 ((w32 ((zI S 9 7) - 1))).toNat) S).bind fun q34 => (g_X5_turn_41 q34.1 q34.2)) else none)))
theorem l_X5_turn {S : Mem} {S' : MZ} (hS : tz S = S') : Lf tU (f_X5_turn S) = g_X5_turn S' := by
  unfold f_X5_turn g_X5_turn
  exact (Lf_if (cI_le (pI_g hS rfl rfl) rfl) (l_X5_turn_40 hS) (Lf_if (cI_lt rfl (pI_g hS rfl rfl)) (l_X5_turn_40 hS) (Lf_if (c_inb (pI_sub (pI_g hS rfl rfl) rfl) rfl) (Lf_bind (l_X6_stepAt (pI_g hS rfl (pN_of (pI_sub (pI_g hS rfl rfl) rfl))) hS) (fun q34 => (l_X5_turn_41 rfl rfl))) rfl)))
def g_X6_kindOfWord_102 (s0 : Int) (S : MZ) : Option (Int × MZ) := (some (s0, S))
theorem l_X6_kindOfWord_102 {s0 : Int32} {s0' : Int} (hs0 : tI s0 = s0') {S : Mem} {S' : MZ} (hS : tz S = S') : Lf tI (f_X6_kindOfWord_102 s0 S) = g_X6_kindOfWord_102 s0' S' := by
  unfold f_X6_kindOfWord_102 g_X6_kindOfWord_102
  exact (Lf_some hs0 hS)
def g_X6_kindOfWord (S : MZ) : Option (Int × MZ) := ((g_X9_wordIs 304 S).bind fun q6 => (if q6.1 = 0 then ((g_X9_wordIs 305 q6.2).bind fun q20 => (if q20.1 = 0 then ((g_X9_wordIs 306 q20.2).bind fun q34 => (if q34.1 = 0 then ((g_X9_wordIs 307 q34.2).bind fun q48 => (if q48.1 = 0 then ((g_X9_wordIs 308 q48.2).bind fun q62 => (if q62.1 = 0 then ((g_X9_wordIs 309 q62.2).bind fun q76 => (if q76.1 = 0 then ((g_X9_wordIs 310 q76.2).bind fun q90 => (if q90.1 = 0 then (g_X6_kindOfWord_102 (-1) q90.2) else (g_X6_kindOfWord_102 6 q90.2))) else (some (5, q76.2)))) else (some (4, q62.2)))) else (some (3, q48.2)))) else (some (2, q34.2)))) else (some (1, q20.2)))) else (some (0, q6.2))))
theorem l_X6_kindOfWord {S : Mem} {S' : MZ} (hS : tz S = S') : Lf tI (f_X6_kindOfWord S) = g_X6_kindOfWord S' := by
  unfold f_X6_kindOfWord g_X6_kindOfWord
  exact (Lf_bind (l_X9_wordIs rfl hS) (fun q6 => (Lf_if (cI_eq rfl rfl) (Lf_bind (l_X9_wordIs rfl rfl) (fun q20 => (Lf_if (cI_eq rfl rfl) (Lf_bind (l_X9_wordIs rfl rfl) (fun q34 => (Lf_if (cI_eq rfl rfl) (Lf_bind (l_X9_wordIs rfl rfl) (fun q48 => (Lf_if (cI_eq rfl rfl) (Lf_bind (l_X9_wordIs rfl rfl) (fun q62 => (Lf_if (cI_eq rfl rfl) (Lf_bind (l_X9_wordIs rfl rfl) (fun q76 => (Lf_if (cI_eq rfl rfl) (Lf_bind (l_X9_wordIs rfl rfl) (fun q90 => (Lf_if (cI_eq rfl rfl) (l_X6_kindOfWord_102 rfl rfl) (l_X6_kindOfWord_102 rfl rfl)))) (Lf_some rfl rfl)))) (Lf_some rfl rfl)))) (Lf_some rfl rfl)))) (Lf_some rfl rfl)))) (Lf_some rfl rfl)))) (Lf_some rfl rfl))))
def g_X6_readRange (p1 : Nat) (S : MZ) : Option (Int × MZ) := ((g_X9_readNumber 0 4 S).bind fun q6 => (if q6.1 = 0 then (some (0, q6.2)) else (if kd p1 = (7, 10) then ((g_X9_readNumber 0 40 (uI q6.2 p1 2 (zI q6.2 2 2))).bind fun q32 => (if q32.1 = 0 then (some (0, q32.2)) else ((g_X9_readNumber 0 40 (uI q32.2 p1 4 (zI q32.2 2 2))).bind fun q58 => (if q58.1 = 0 then (some (0, q58.2)) else (some (1, (uI q58.2 p1 5 (zI q58.2 2 2)))))))) else none)))
theorem l_X6_readRange {p1 : Nat} {p1' : Nat} (hp1 : p1 = p1') {S : Mem} {S' : MZ} (hS : tz S = S') : Lf tI (f_X6_readRange p1 S) = g_X6_readRange p1' S' := by
  unfold f_X6_readRange g_X6_readRange
  exact (Lf_bind (l_X9_readNumber rfl rfl hS) (fun q6 => (Lf_if (cI_eq rfl rfl) (Lf_some rfl rfl) (Lf_if (c_kd hp1) (Lf_bind (l_X9_readNumber rfl rfl (pM_I rfl hp1 rfl (pI_g rfl rfl rfl))) (fun q32 => (Lf_if (cI_eq rfl rfl) (Lf_some rfl rfl) (Lf_bind (l_X9_readNumber rfl rfl (pM_I rfl hp1 rfl (pI_g rfl rfl rfl))) (fun q58 => (Lf_if (cI_eq rfl rfl) (Lf_some rfl rfl) (Lf_some rfl (pM_I rfl hp1 rfl (pI_g rfl rfl rfl))))))))) rfl))))
def g_X6_readAmount (p1 : Nat) (p2 : Int) (p3 : Int) (S : MZ) : Option (Int × MZ) := ((g_X9_readNumber p2 p3 S).bind fun q6 => (if q6.1 = 0 then (some (0, q6.2)) else (if kd p1 = (7, 10) then (some (1, (uI q6.2 p1 7 (zI q6.2 2 2)))) else none)))
theorem l_X6_readAmount {p1 : Nat} {p1' : Nat} (hp1 : p1 = p1') {p2 : Int32} {p2' : Int} (hp2 : tI p2 = p2') {p3 : Int32} {p3' : Int} (hp3 : tI p3 = p3') {S : Mem} {S' : MZ} (hS : tz S = S') : Lf tI (f_X6_readAmount p1 p2 p3 S) = g_X6_readAmount p1' p2' p3' S' := by
  unfold f_X6_readAmount g_X6_readAmount
  exact (Lf_bind (l_X9_readNumber hp2 hp3 hS) (fun q6 => (Lf_if (cI_eq rfl rfl) (Lf_some rfl rfl) (Lf_if (c_kd hp1) (Lf_some rfl (pM_I rfl hp1 rfl (pI_g rfl rfl rfl))) rfl))))
def g_X6_readLeast (p1 : Nat) (S : MZ) : Option (Int × MZ) := ((g_X9_readNumber 0 4 S).bind fun q6 => (if q6.1 = 0 then (some (0, q6.2)) else (if kd p1 = (7, 10) then ((g_X6_readAmount p1 0 9999999 (uI q6.2 p1 6 (zI q6.2 2 2))).bind fun q30 => (if (q30.1 = 0 ∨ q30.1 = 1) then (some (q30.1, q30.2)) else none)) else none)))
theorem l_X6_readLeast {p1 : Nat} {p1' : Nat} (hp1 : p1 = p1') {S : Mem} {S' : MZ} (hS : tz S = S') : Lf tI (f_X6_readLeast p1 S) = g_X6_readLeast p1' S' := by
  unfold f_X6_readLeast g_X6_readLeast
  exact (Lf_bind (l_X9_readNumber rfl rfl hS) (fun q6 => (Lf_if (cI_eq rfl rfl) (Lf_some rfl rfl) (Lf_if (c_kd hp1) (Lf_bind (l_X6_readAmount hp1 rfl rfl (pM_I rfl hp1 rfl (pI_g rfl rfl rfl))) (fun q30 => (Lf_if (c_isB rfl) (Lf_some rfl rfl) rfl))) rfl))))
def g_X6_readPoolAndSide (p1 : Nat) (S : MZ) : Option (Int × MZ) := ((g_X9_readNumber 0 4 S).bind fun q6 => (if q6.1 = 0 then (some (0, q6.2)) else (if kd p1 = (7, 10) then ((g_X9_readNumber 0 1 (uI q6.2 p1 2 (zI q6.2 2 2))).bind fun q31 => (if q31.1 = 0 then (some (0, q31.2)) else (some (1, (uI q31.2 p1 3 (zI q31.2 2 2)))))) else none)))
theorem l_X6_readPoolAndSide {p1 : Nat} {p1' : Nat} (hp1 : p1 = p1') {S : Mem} {S' : MZ} (hS : tz S = S') : Lf tI (f_X6_readPoolAndSide p1 S) = g_X6_readPoolAndSide p1' S' := by
  unfold f_X6_readPoolAndSide g_X6_readPoolAndSide
  exact (Lf_bind (l_X9_readNumber rfl rfl hS) (fun q6 => (Lf_if (cI_eq rfl rfl) (Lf_some rfl rfl) (Lf_if (c_kd hp1) (Lf_bind (l_X9_readNumber rfl rfl (pM_I rfl hp1 rfl (pI_g rfl rfl rfl))) (fun q31 => (Lf_if (cI_eq rfl rfl) (Lf_some rfl rfl) (Lf_some rfl (pM_I rfl hp1 rfl (pI_g rfl rfl rfl)))))) rfl))))
def g_X6_readMuch_91 (s0 : Int) (S : MZ) : Option (Int × MZ) := (if (s0 = 0 ∨ s0 = 1) then (some (s0, S)) else none)
theorem l_X6_readMuch_91 {s0 : Int32} {s0' : Int} (hs0 : tI s0 = s0') {S : Mem} {S' : MZ} (hS : tz S = S') : Lf tI (f_X6_readMuch_91 s0 S) = g_X6_readMuch_91 s0' S' := by
  unfold f_X6_readMuch_91 g_X6_readMuch_91
  exact (Lf_if (c_isB hs0) (Lf_some hs0 hS) rfl)
def g_X6_readMuch_86 (S : MZ) : Option (Int × MZ) := (g_X6_readMuch_91 1 S)
theorem l_X6_readMuch_86 {S : Mem} {S' : MZ} (hS : tz S = S') : Lf tI (f_X6_readMuch_86 S) = g_X6_readMuch_86 S' := by
  unfold f_X6_readMuch_86 g_X6_readMuch_86
  exact (l_X6_readMuch_91 rfl hS)
def g_X6_readMuch (p1 : Nat) (S : MZ) : Option (Int × MZ) := (if kd p1 = (7, 10) then ((g_X9_peek (uI S p1 8 0)).bind fun q9 => ((g_X9_isDigit q9.1 q9.2).bind fun q12 => (if q12.1 = 0 then ((g_X9_readWord q12.2).bind fun q31 => (if q31.1 = 0 then (some (0, q31.2)) else ((g_X9_wordIs 311 q31.2).bind fun q45 => (if q45.1 = 0 then ((g_X9_wordIs 312 (uI q45.2 p1 8 2)).bind fun q69 => (if q69.1 = 0 then ((g_X9_blameWord 0 q69.2).bind fun q80 => (if q80.1 = 0 then (g_X6_readMuch_91 0 q80.2) else (g_X6_readMuch_86 q80.2))) else (g_X6_readMuch_86 q69.2))) else (some (1, (uI q45.2 p1 8 1))))))) else ((g_X6_readAmount p1 0 9999999 q12.2).bind fun q23 => (if (q23.1 = 0 ∨ q23.1 = 1) then (some (q23.1, q23.2)) else none))))) else none)
theorem l_X6_readMuch {p1 : Nat} {p1' : Nat} (hp1 : p1 = p1') {S : Mem} {S' : MZ} (hS : tz S = S') : Lf tI (f_X6_readMuch p1 S) = g_X6_readMuch p1' S' := by
  unfold f_X6_readMuch g_X6_readMuch
  exact (Lf_if (c_kd hp1) (Lf_bind (l_X9_peek (pM_I hS hp1 rfl rfl)) (fun q9 => (Lf_bind (l_X9_isDigit rfl rfl) (fun q12 => (Lf_if (cI_eq rfl rfl) (Lf_bind (l_X9_readWord rfl) (fun q31 => (Lf_if (cI_eq rfl rfl) (Lf_some rfl rfl) (Lf_bind (l_X9_wordIs rfl rfl) (fun q45 => (Lf_if (cI_eq rfl rfl) (Lf_bind (l_X9_wordIs rfl (pM_I rfl hp1 rfl rfl)) (fun q69 => (Lf_if (cI_eq rfl rfl) (Lf_bind (l_X9_blameWord rfl rfl) (fun q80 => (Lf_if (cI_eq rfl rfl) (l_X6_readMuch_91 rfl rfl) (l_X6_readMuch_86 rfl)))) (l_X6_readMuch_86 rfl)))) (Lf_some rfl (pM_I rfl hp1 rfl rfl)))))))) (Lf_bind (l_X6_readAmount hp1 rfl rfl rfl) (fun q23 => (Lf_if (c_isB rfl) (Lf_some rfl rfl) rfl)))))))) rfl)
def g_X6_readStep_50 (S : MZ) : Option (Int × MZ) := ((g_X9_blameWord 2 S).bind fun q55 => (if (q55.1 = 0 ∨ q55.1 = 1) then (some (q55.1, q55.2)) else none))
theorem l_X6_readStep_50 {S : Mem} {S' : MZ} (hS : tz S = S') : Lf tI (f_X6_readStep_50 S) = g_X6_readStep_50 S' := by
  unfold f_X6_readStep_50 g_X6_readStep_50
  exact (Lf_bind (l_X9_blameWord rfl hS) (fun q55 => (Lf_if (c_isB rfl) (Lf_some rfl rfl) rfl)))
def g_X6_readStep_164 (s0 : Int) (S : MZ) : Option (Int × MZ) := (if (s0 = 0 ∨ s0 = 1) then (some (s0, S)) else none)
theorem l_X6_readStep_164 {s0 : Int32} {s0' : Int} (hs0 : tI s0 = s0') {S : Mem} {S' : MZ} (hS : tz S = S') : Lf tI (f_X6_readStep_164 s0 S) = g_X6_readStep_164 s0' S' := by
  unfold f_X6_readStep_164 g_X6_readStep_164
  exact (Lf_if (c_isB hs0) (Lf_some hs0 hS) rfl)
def g_X6_readStep_163 (S : MZ) : Option (Int × MZ) := (g_X6_readStep_164 0 S)
theorem l_X6_readStep_163 {S : Mem} {S' : MZ} (hS : tz S = S') : Lf tI (f_X6_readStep_163 S) = g_X6_readStep_163 S' := by
  unfold f_X6_readStep_163 g_X6_readStep_163
  exact (l_X6_readStep_164 rfl hS)
def g_X6_readStep_207 (s0 : Int) (S : MZ) : Option (Int × MZ) := (if (s0 = 0 ∨ s0 = 1) then (some (s0, S)) else none)
theorem l_X6_readStep_207 {s0 : Int32} {s0' : Int} (hs0 : tI s0 = s0') {S : Mem} {S' : MZ} (hS : tz S = S') : Lf tI (f_X6_readStep_207 s0 S) = g_X6_readStep_207 s0' S' := by
  unfold f_X6_readStep_207 g_X6_readStep_207
  exact (Lf_if (c_isB hs0) (Lf_some hs0 hS) rfl)
def g_X6_readStep_206 (S : MZ) : Option (Int × MZ) := (g_X6_readStep_207 0 S)
theorem l_X6_readStep_206 {S : Mem} {S' : MZ} (hS : tz S = S') : Lf tI (f_X6_readStep_206 S) = g_X6_readStep_206 S' := by
  unfold f_X6_readStep_206 g_X6_readStep_206
  exact (l_X6_readStep_207 rfl hS)
def g_X6_readStep_186 (v2 : Nat) (S : MZ) : Option (Int × MZ) := ((g_X6_readPoolAndSide v2 S).bind fun q188 => (if q188.1 = 0 then (g_X6_readStep_206 q188.2) else ((g_X6_readMuch v2 q188.2).bind fun q196 => (if q196.1 = 0 then (g_X6_readStep_206 q196.2) else (g_X6_readStep_207 1 q196.2)))))
theorem l_X6_readStep_186 {v2 : Nat} {v2' : Nat} (hv2 : v2 = v2') {S : Mem} {S' : MZ} (hS : tz S = S') : Lf tI (f_X6_readStep_186 v2 S) = g_X6_readStep_186 v2' S' := by
  unfold f_X6_readStep_186 g_X6_readStep_186
  exact (Lf_bind (l_X6_readPoolAndSide hv2 hS) (fun q188 => (Lf_if (cI_eq rfl rfl) (l_X6_readStep_206 rfl) (Lf_bind (l_X6_readMuch hv2 rfl) (fun q196 => (Lf_if (cI_eq rfl rfl) (l_X6_readStep_206 rfl) (l_X6_readStep_207 rfl rfl)))))))
def g_X6_readStep_95 (v1 : Int) (v2 : Nat) (S : MZ) : Option (Int × MZ) := (if kd v2 = (7, 10) then (if v1 = 2 then ((g_X6_readRange v2 (uI S v2 9 (zI S 6 0))).bind fun q142 => (if q142.1 = 0 then (g_X6_readStep_163 q142.2) else ((g_X6_readAmount v2 1 99999 q142.2).bind fun q153 => (if q153.1 = 0 then (g_X6_readStep_163 q153.2) else (g_X6_readStep_164 1 q153.2))))) else (if v1 = 3 then ((g_X6_readRange v2 (uI S v2 9 (zI S 6 0))).bind fun q167 => (if (q167.1 = 0 ∨ q167.1 = 1) then (some (q167.1, q167.2)) else none)) else (if v1 = 4 then ((g_X6_readLeast v2 (uI S v2 9 (zI S 6 0))).bind fun q173 => (if (q173.1 = 0 ∨ q173.1 = 1) then (some (q173.1, q173.2)) else none)) else (if v1 = 5 then (g_X6_readStep_186 v2 (uI S v2 9 (zI S 6 0))) else (if v1 = 6 then ((g_X6_readAmount v2 0 20 (uI S v2 9 (zI S 6 0))).bind fun q182 => (if (q182.1 = 0 ∨ q182.1 = 1) then (some (q182.1, q182.2)) else none)) else (g_X6_readStep_186 v2 (uI S v2 9 (zI S 6 0)))))))) else none)
theorem l_X6_readStep_95 {v1 : Int32} {v1' : Int} (hv1 : tI v1 = v1') {v2 : Nat} {v2' : Nat} (hv2 : v2 = v2') {S : Mem} {S' : MZ} (hS : tz S = S') : Lf tI (f_X6_readStep_95 v1 v2 S) = g_X6_readStep_95 v1' v2' S' := by
  unfold f_X6_readStep_95 g_X6_readStep_95
  exact (Lf_if (c_kd hv2) (Lf_if (cI_eq hv1 rfl) (Lf_bind (l_X6_readRange hv2 (pM_I hS hv2 rfl (pI_g hS rfl rfl))) (fun q142 => (Lf_if (cI_eq rfl rfl) (l_X6_readStep_163 rfl) (Lf_bind (l_X6_readAmount hv2 rfl rfl rfl) (fun q153 => (Lf_if (cI_eq rfl rfl) (l_X6_readStep_163 rfl) (l_X6_readStep_164 rfl rfl))))))) (Lf_if (cI_eq hv1 rfl) (Lf_bind (l_X6_readRange hv2 (pM_I hS hv2 rfl (pI_g hS rfl rfl))) (fun q167 => (Lf_if (c_isB rfl) (Lf_some rfl rfl) rfl))) (Lf_if (cI_eq hv1 rfl) (Lf_bind (l_X6_readLeast hv2 (pM_I hS hv2 rfl (pI_g hS rfl rfl))) (fun q173 => (Lf_if (c_isB rfl) (Lf_some rfl rfl) rfl))) (Lf_if (cI_eq hv1 rfl) (l_X6_readStep_186 hv2 (pM_I hS hv2 rfl (pI_g hS rfl rfl))) (Lf_if (cI_eq hv1 rfl) (Lf_bind (l_X6_readAmount hv2 rfl rfl (pM_I hS hv2 rfl (pI_g hS rfl rfl))) (fun q182 => (Lf_if (c_isB rfl) (Lf_some rfl rfl) rfl))) (l_X6_readStep_186 hv2 (pM_I hS hv2 rfl (pI_g hS rfl rfl)))))))) rfl)
def g_X6_readStep_69 (v1 : Int) (v2 : Nat) (S : MZ) : Option (Int × MZ) := (if kd v2 = (7, 10) then (g_X6_readStep_95 v1 v2 (uI (uI (uI S 6 0 (w32 ((zI S 6 0) + 1))) v2 0 v1) v2 1 (zI (uI (uI S 6 0 (w32 ((zI S 6 0) + 1))) v2 0 v1) 2 3))) else none)
theorem l_X6_readStep_69 {v1 : Int32} {v1' : Int} (hv1 : tI v1 = v1') {v2 : Nat} {v2' : Nat} (hv2 : v2 = v2') {S : Mem} {S' : MZ} (hS : tz S = S') : Lf tI (f_X6_readStep_69 v1 v2 S) = g_X6_readStep_69 v1' v2' S' := by
  unfold f_X6_readStep_69 g_X6_readStep_69
  exact (Lf_if (c_kd hv2) (l_X6_readStep_95 hv1 hv2 (pM_I (pM_I (pM_I hS rfl rfl (pI_add (pI_g hS rfl rfl) rfl)) hv2 rfl hv1) hv2 rfl (pI_g (pM_I (pM_I hS rfl rfl (pI_add (pI_g hS rfl rfl) rfl)) hv2 rfl hv1) rfl rfl))) rfl)
def g_X6_readStep (S : MZ) : Option (Int × MZ) := ((g_X9_readWord S).bind fun q4 => (if q4.1 = 0 then (some (0, q4.2)) else ((g_X6_kindOfWord q4.2).bind fun q13 => (if q13.1 = (-1) then ((g_X9_blameWord 0 q13.2).bind fun q27 => (if (q27.1 = 0 ∨ q27.1 = 1) then (some (q27.1, q27.2)) else none)) else (if (zI q13.2 6 0) < 0 then (g_X6_readStep_50 q13.2) else (if (zI q13.2 6 0) < 40 then (if (0 ≤ (zI q13.2 6 0) ∧ (zI q13.2 6 0) < ((40 : Nat) : Int)) then (g_X6_readStep_69 q13.1 ((7 + 31) + ((zI q13.2 6 0)).toNat) q13.2) else none) else (g_X6_readStep_50 q13.2)))))))
theorem l_X6_readStep {S : Mem} {S' : MZ} (hS : tz S = S') : Lf tI (f_X6_readStep S) = g_X6_readStep S' := by
  unfold f_X6_readStep g_X6_readStep
  exact (Lf_bind (l_X9_readWord hS) (fun q4 => (Lf_if (cI_eq rfl rfl) (Lf_some rfl rfl) (Lf_bind (l_X6_kindOfWord rfl) (fun q13 => (Lf_if (cI_eq rfl rfl) (Lf_bind (l_X9_blameWord rfl rfl) (fun q27 => (Lf_if (c_isB rfl) (Lf_some rfl rfl) rfl))) (Lf_if (cI_lt (pI_g rfl rfl rfl) rfl) (l_X6_readStep_50 rfl) (Lf_if (cI_lt (pI_g rfl rfl rfl) rfl) (Lf_if (c_inb (pI_g rfl rfl rfl) rfl) (l_X6_readStep_69 rfl (pR_add rfl (pN_of (pI_g rfl rfl rfl))) rfl) rfl) (l_X6_readStep_50 rfl)))))))))
def g_X8_hasBrackets_22 (s0 : Int) (S : MZ) : Option (Int × MZ) := (if (s0 = 0 ∨ s0 = 1) then (some (s0, S)) else none)
theorem l_X8_hasBrackets_22 {s0 : Int32} {s0' : Int} (hs0 : tI s0 = s0') {S : Mem} {S' : MZ} (hS : tz S = S') : Lf tI (f_X8_hasBrackets_22 s0 S) = g_X8_hasBrackets_22 s0' S' := by
  unfold f_X8_hasBrackets_22 g_X8_hasBrackets_22
  exact (Lf_if (c_isB hs0) (Lf_some hs0 hS) rfl)
def g_X8_hasBrackets_17 (S : MZ) : Option (Int × MZ) := (g_X8_hasBrackets_22 1 S)
theorem l_X8_hasBrackets_17 {S : Mem} {S' : MZ} (hS : tz S = S') : Lf tI (f_X8_hasBrackets_17 S) = g_X8_hasBrackets_17 S' := by
  unfold f_X8_hasBrackets_17 g_X8_hasBrackets_17
  exact (l_X8_hasBrackets_22 rfl hS)
def g_X8_hasBrackets (h0 : Nat) (S : MZ) : Option (Int × MZ) := (if kd h0 = (7, 10) then (if (zI S h0 0) = 5 then (g_X8_hasBrackets_17 S) else (if (zI S h0 0) = 6 then (g_X8_hasBrackets_17 S) else (g_X8_hasBrackets_22 0 S))) else none)
theorem l_X8_hasBrackets {h0 : Nat} {h0' : Nat} (hh0 : h0 = h0') {S : Mem} {S' : MZ} (hS : tz S = S') : Lf tI (f_X8_hasBrackets h0 S) = g_X8_hasBrackets h0' S' := by
  unfold f_X8_hasBrackets g_X8_hasBrackets
  exact (Lf_if (c_kd hh0) (Lf_if (cI_eq (pI_g hS hh0 rfl) rfl) (l_X8_hasBrackets_17 hS) (Lf_if (cI_eq (pI_g hS hh0 rfl) rfl) (l_X8_hasBrackets_17 hS) (l_X8_hasBrackets_22 rfl hS))) rfl)
def g_X6_openBracket_40 (S : MZ) : Option (Int × MZ) := ((g_X9_blameHere 3 S).bind fun q45 => (if (q45.1 = 0 ∨ q45.1 = 1) then (some (q45.1, q45.2)) else none))
theorem l_X6_openBracket_40 {S : Mem} {S' : MZ} (hS : tz S = S') : Lf tI (f_X6_openBracket_40 S) = g_X6_openBracket_40 S' := by
  unfold f_X6_openBracket_40 g_X6_openBracket_40
  exact (Lf_bind (l_X9_blameHere rfl hS) (fun q45 => (Lf_if (c_isB rfl) (Lf_some rfl rfl) rfl)))
def g_X6_openBracket (S : MZ) : Option (Int × MZ) := ((g_X9_peek S).bind fun q4 => (if q4.1 = 91 then (if (zI q4.2 6 4) < 0 then (g_X6_openBracket_40 q4.2) else (if (zI q4.2 6 4) < 4 then ((g_X9_accept 91 q4.2).bind fun q55 => (if (0 ≤ (zI q55.2 6 4) ∧ (zI q55.2 6 4) < ((4 : Nat) : Int)) then (some (1, (uI (uI q55.2 8 ((zI q55.2 6 4)).toNat (w32 ((zI q55.2 6 0) - 1))) 6 4 (w32 ((zI (uI q55.2 8 ((zI q55.2 6 4)).toNat (w32 ((zI q55.2 6 0) - 1))) 6 4) + 1))))) else none)) else (g_X6_openBracket_40 q4.2))) else ((g_X9_blameHere 0 q4.2).bind fun q17 => (if (q17.1 = 0 ∨ q17.1 = 1) then (some (q17.1, q17.2)) else none))))
theorem l_X6_openBracket {S : Mem} {S' : MZ} (hS : tz S = S') : Lf tI (f_X6_openBracket S) = g_X6_openBracket S' := by
  unfold f_X6_openBracket g_X6_openBracket
  exact (Lf_bind (l_X9_peek hS) (fun q4 => (Lf_if (cI_eq rfl rfl) (Lf_if (cI_lt (pI_g rfl rfl rfl) rfl) (l_X6_openBracket_40 rfl) (Lf_if (cI_lt (pI_g rfl rfl rfl) rfl) (Lf_bind (l_X9_accept rfl rfl) (fun q55 => (Lf_if (c_inb (pI_g rfl rfl rfl) rfl) (Lf_some rfl (pM_I (pM_I rfl rfl (pN_of (pI_g rfl rfl rfl)) (pI_sub (pI_g rfl rfl rfl) rfl)) rfl rfl (pI_add (pI_g (pM_I rfl rfl (pN_of (pI_g rfl rfl rfl)) (pI_sub (pI_g rfl rfl rfl) rfl)) rfl rfl) rfl))) rfl))) (l_X6_openBracket_40 rfl))) (Lf_bind (l_X9_blameHere rfl rfl) (fun q17 => (Lf_if (c_isB rfl) (Lf_some rfl rfl) rfl))))))
def g_X6_closeBrackets_67 (k0 : MZ → Option (Unit × MZ)) (S : MZ) : Option (Unit × MZ) := (k0 S)
theorem l_X6_closeBrackets_67 {k0 : Mem → Option (Unit × Mem)} {k0' : MZ → Option (Unit × MZ)} (hk0 : ∀ {x0 : Mem} {y0 : MZ}, tz x0 = y0 → Lf tU (k0 x0) = k0' y0) {S : Mem} {S' : MZ} (hS : tz S = S') : Lf tU (f_X6_closeBrackets_67 k0 S) = g_X6_closeBrackets_67 k0' S' := by
  unfold f_X6_closeBrackets_67 g_X6_closeBrackets_67
  exact (hk0 hS)
def g_X6_closeBrackets_70 (S : MZ) : Option (Unit × MZ) := (some ((), S))
theorem l_X6_closeBrackets_70 {S : Mem} {S' : MZ} (hS : tz S = S') : Lf tU (f_X6_closeBrackets_70 S) = g_X6_closeBrackets_70 S' := by
  unfold f_X6_closeBrackets_70 g_X6_closeBrackets_70
  exact (Lf_some rfl hS)
def g_X6_closeBrackets_0B (k0 : MZ → Option (Unit × MZ)) (S : MZ) : Option (Unit × MZ) := (if (zI S 6 4) ≤ 0 then (g_X6_closeBrackets_70 S) else (if 4 < (zI S 6 4) then (g_X6_closeBrackets_70 S) else ((g_X9_accept 93 S).bind fun q25 => (if q25.1 = 0 then (g_X6_closeBrackets_70 q25.2) else (if (0 ≤ (zI (uI q25.2 6 4 (w32 ((zI q25.2 6 4) - 1))) 6 4) ∧ (zI (uI q25.2 6 4 (w32 ((zI q25.2 6 4) - 1))) 6 4) < ((4 : Nat) : Int)) then ((g_X6_stepAt (zI (uI q25.2 6 4 (w32 ((zI q25.2 6 4) - 1))) 8 ((zI (uI q25.2 6 4 (w32 ((zI q25.2 6 4) - 1))) 6 4)).toNat) (uI q25.2 6 4 (w32 ((zI q25.2 6 4) - 1)))).bind fun q51 => (if q51.1 = 0 then (g_X6_closeBrackets_67 k0 q51.2) else (if kd q51.1 = (7, 10) then (g_X6_closeBrackets_67 k0 (uI q51.2 q51.1 9 (zI q51.2 6 0))) else none))) else none)))))
theorem l_X6_closeBrackets_0B {k0 : Mem → Option (Unit × Mem)} {k0' : MZ → Option (Unit × MZ)} (hk0 : ∀ {x0 : Mem} {y0 : MZ}, tz x0 = y0 → Lf tU (k0 x0) = k0' y0) {S : Mem} {S' : MZ} (hS : tz S = S') : Lf tU (f_X6_closeBrackets_0B k0 S) = g_X6_closeBrackets_0B k0' S' := by
  unfold f_X6_closeBrackets_0B g_X6_closeBrackets_0B
  exact (Lf_if (cI_le (pI_g hS rfl rfl) rfl) (l_X6_closeBrackets_70 hS) (Lf_if (cI_lt rfl (pI_g hS rfl rfl)) (l_X6_closeBrackets_70 hS) (Lf_bind (l_X9_accept rfl hS) (fun q25 => (Lf_if (cI_eq rfl rfl) (l_X6_closeBrackets_70 rfl) (Lf_if (c_inb (pI_g (pM_I rfl rfl rfl (pI_sub (pI_g rfl rfl rfl) rfl)) rfl rfl) rfl) (Lf_bind (l_X6_stepAt (pI_g (pM_I rfl rfl rfl (pI_sub (pI_g rfl rfl rfl) rfl)) rfl (pN_of (pI_g (pM_I rfl rfl rfl (pI_sub (pI_g rfl rfl rfl) rfl)) rfl rfl))) (pM_I rfl rfl rfl (pI_sub (pI_g rfl rfl rfl) rfl))) (fun q51 => (Lf_if (cR_eq rfl rfl) (l_X6_closeBrackets_67 hk0 rfl) (Lf_if (c_kd rfl) (l_X6_closeBrackets_67 hk0 (pM_I rfl rfl rfl (pI_g rfl rfl rfl))) rfl)))) rfl))))))
def g_X6_closeBrackets_0 : Nat → MZ → Option (Unit × MZ)
  | 0 => fun _ => none
  | n + 1 => g_X6_closeBrackets_0B (g_X6_closeBrackets_0 n)
theorem l_X6_closeBrackets_0 : ∀ (n : Nat) {x0 : Mem} {y0 : MZ}, tz x0 = y0 → Lf tU (f_X6_closeBrackets_0 n x0) = g_X6_closeBrackets_0 n y0
  | 0, _, _, _ => rfl
  | n + 1, _, _, e0 => l_X6_closeBrackets_0B (fun de0 => l_X6_closeBrackets_0 n de0) e0
def g_X6_closeBrackets (S : MZ) : Option (Unit × MZ) := (g_X6_closeBrackets_0 100000 S)
theorem l_X6_closeBrackets {S : Mem} {S' : MZ} (hS : tz S = S') : Lf tU (f_X6_closeBrackets S) = g_X6_closeBrackets S' := by
  unfold f_X6_closeBrackets g_X6_closeBrackets
  exact (l_X6_closeBrackets_0 100000 hS)
def g_X6_compile_110 (k19 : Int → MZ → Option (Int × MZ)) (v1 : Int) (S : MZ) : Option (Int × MZ) := (k19 (w32 (v1 + 1)) S)
theorem l_X6_compile_110 {k19 : Int32 → Mem → Option (Int32 × Mem)} {k19' : Int → MZ → Option (Int × MZ)} (hk19 : ∀ {x0 : Int32} {x1 : Mem} {y0 : Int} {y1 : MZ}, tI x0 = y0 → tz x1 = y1 → Lf tI (k19 x0 x1) = k19' y0 y1) {v1 : Int32} {v1' : Int} (hv1 : tI v1 = v1') {S : Mem} {S' : MZ} (hS : tz S = S') : Lf tI (f_X6_compile_110 k19 v1 S) = g_X6_compile_110 k19' v1' S' := by
  unfold f_X6_compile_110 g_X6_compile_110
  exact (hk19 (pI_add hv1 rfl) hS)
def g_X6_compile_89 (k19 : Int → MZ → Option (Int × MZ)) (v1 : Int) (S : MZ) : Option (Int × MZ) := ((g_X9_accept 59 S).bind fun q95 => (if q95.1 = 0 then ((g_X9_blameHere 0 q95.2).bind fun q106 => (if (q106.1 = 0 ∨ q106.1 = 1) then (some (q106.1, q106.2)) else none)) else (g_X6_compile_110 k19 v1 q95.2)))
theorem l_X6_compile_89 {k19 : Int32 → Mem → Option (Int32 × Mem)} {k19' : Int → MZ → Option (Int × MZ)} (hk19 : ∀ {x0 : Int32} {x1 : Mem} {y0 : Int} {y1 : MZ}, tI x0 = y0 → tz x1 = y1 → Lf tI (k19 x0 x1) = k19' y0 y1) {v1 : Int32} {v1' : Int} (hv1 : tI v1 = v1') {S : Mem} {S' : MZ} (hS : tz S = S') : Lf tI (f_X6_compile_89 k19 v1 S) = g_X6_compile_89 k19' v1' S' := by
  unfold f_X6_compile_89 g_X6_compile_89
  exact (Lf_bind (l_X9_accept rfl hS) (fun q95 => (Lf_if (cI_eq rfl rfl) (Lf_bind (l_X9_blameHere rfl rfl) (fun q106 => (Lf_if (c_isB rfl) (Lf_some rfl rfl) rfl))) (l_X6_compile_110 hk19 hv1 rfl))))
def g_X6_compile_65 (k19 : Int → MZ → Option (Int × MZ)) (v1 : Int) (S : MZ) : Option (Int × MZ) := ((g_X6_closeBrackets S).bind fun q66 => (if (zI q66.2 6 4) = 0 then ((g_X9_peek q66.2).bind fun q80 => (if q80.1 = (-1) then (some (1, q80.2)) else (g_X6_compile_89 k19 v1 q80.2))) else (g_X6_compile_89 k19 v1 q66.2)))
theorem l_X6_compile_65 {k19 : Int32 → Mem → Option (Int32 × Mem)} {k19' : Int → MZ → Option (Int × MZ)} (hk19 : ∀ {x0 : Int32} {x1 : Mem} {y0 : Int} {y1 : MZ}, tI x0 = y0 → tz x1 = y1 → Lf tI (k19 x0 x1) = k19' y0 y1) {v1 : Int32} {v1' : Int} (hv1 : tI v1 = v1') {S : Mem} {S' : MZ} (hS : tz S = S') : Lf tI (f_X6_compile_65 k19 v1 S) = g_X6_compile_65 k19' v1' S' := by
  unfold f_X6_compile_65 g_X6_compile_65
  exact (Lf_bind (l_X6_closeBrackets hS) (fun q66 => (Lf_if (cI_eq (pI_g rfl rfl rfl) rfl) (Lf_bind (l_X9_peek rfl) (fun q80 => (Lf_if (cI_eq rfl rfl) (Lf_some rfl rfl) (l_X6_compile_89 hk19 hv1 rfl)))) (l_X6_compile_89 hk19 hv1 rfl))))
def g_X6_compile_19B (k19 : Int → MZ → Option (Int × MZ)) (v1 : Int) (S : MZ) : Option (Int × MZ) := (if 40 < v1 then (some (0, S)) else ((g_X6_readStep S).bind fun q26 => (if q26.1 = 0 then (some (0, q26.2)) else ((g_X6_stepAt (w32 ((zI q26.2 6 0) - 1)) q26.2).bind fun q41 => (if q41.1 = 0 then (g_X6_compile_65 k19 v1 q41.2) else (if kd q41.1 = (7, 10) then ((g_X8_hasBrackets q41.1 q41.2).bind fun q50 => (if q50.1 = 0 then (g_X6_compile_65 k19 v1 q50.2) else ((g_X6_openBracket q50.2).bind fun q57 => (if q57.1 = 0 then (some (0, q57.2)) else (g_X6_compile_110 k19 v1 q57.2))))) else none))))))
theorem l_X6_compile_19B {k19 : Int32 → Mem → Option (Int32 × Mem)} {k19' : Int → MZ → Option (Int × MZ)} (hk19 : ∀ {x0 : Int32} {x1 : Mem} {y0 : Int} {y1 : MZ}, tI x0 = y0 → tz x1 = y1 → Lf tI (k19 x0 x1) = k19' y0 y1) {v1 : Int32} {v1' : Int} (hv1 : tI v1 = v1') {S : Mem} {S' : MZ} (hS : tz S = S') : Lf tI (f_X6_compile_19B k19 v1 S) = g_X6_compile_19B k19' v1' S' := by
  unfold f_X6_compile_19B g_X6_compile_19B
  exact (Lf_if (cI_lt rfl hv1) (Lf_some rfl hS) (Lf_bind (l_X6_readStep hS) (fun q26 => (Lf_if (cI_eq rfl rfl) (Lf_some rfl rfl) (Lf_bind (l_X6_stepAt (pI_sub (pI_g rfl rfl rfl) rfl) rfl) (fun q41 => (Lf_if (cR_eq rfl rfl) (l_X6_compile_65 hk19 hv1 rfl) (Lf_if (c_kd rfl) (Lf_bind (l_X8_hasBrackets rfl rfl) (fun q50 => (Lf_if (cI_eq rfl rfl) (l_X6_compile_65 hk19 hv1 rfl) (Lf_bind (l_X6_openBracket rfl) (fun q57 => (Lf_if (cI_eq rfl rfl) (Lf_some rfl rfl) (l_X6_compile_110 hk19 hv1 rfl))))))) rfl))))))))
def g_X6_compile_19 : Nat → Int → MZ → Option (Int × MZ)
  | 0 => fun _ _ => none
  | n + 1 => g_X6_compile_19B (g_X6_compile_19 n)
theorem l_X6_compile_19 : ∀ (n : Nat) {x0 : Int32} {x1 : Mem} {y0 : Int} {y1 : MZ}, tI x0 = y0 → tz x1 = y1 → Lf tI (f_X6_compile_19 n x0 x1) = g_X6_compile_19 n y0 y1
  | 0, _, _, _, _, _, _ => rfl
  | n + 1, _, _, _, _, e0, e1 => l_X6_compile_19B (fun de0 de1 => l_X6_compile_19 n de0 de1) e0 e1
def g_X6_compile (S : MZ) : Option (Int × MZ) := ((g_X9_rewind S).bind fun q4 => (g_X6_compile_19 100000 0 (uI (uI q4.2 6 0 0) 6 4 0)))
theorem l_X6_compile {S : Mem} {S' : MZ} (hS : tz S = S') : Lf tI (f_X6_compile S) = g_X6_compile S' := by
  unfold f_X6_compile g_X6_compile
  exact (Lf_bind (l_X9_rewind hS) (fun q4 => (l_X6_compile_19 100000 rfl (pM_I (pM_I rfl rfl rfl rfl) rfl rfl rfl))))
def g_X9_hasRoom_20 (s0 : Int) (S : MZ) : Option (Int × MZ) := (if (s0 = 0 ∨ s0 = 1) then (some (s0, S)) else none)
theorem l_X9_hasRoom_20 {s0 : Int32} {s0' : Int} (hs0 : tI s0 = s0') {S : Mem} {S' : MZ} (hS : tz S = S') : Lf tI (f_X9_hasRoom_20 s0 S) = g_X9_hasRoom_20 s0' S' := by
  unfold f_X9_hasRoom_20 g_X9_hasRoom_20
  exact (Lf_if (c_isB hs0) (Lf_some hs0 hS) rfl)
def g_X9_hasRoom (S : MZ) : Option (Int × MZ) := (if 400 < (w32 ((zI S 2 0) + 20)) then (g_X9_hasRoom_20 0 S) else (g_X9_hasRoom_20 1 S))
theorem l_X9_hasRoom {S : Mem} {S' : MZ} (hS : tz S = S') : Lf tI (f_X9_hasRoom S) = g_X9_hasRoom S' := by
  unfold f_X9_hasRoom g_X9_hasRoom
  exact (Lf_if (cI_lt rfl (pI_add (pI_g hS rfl rfl) rfl)) (l_X9_hasRoom_20 rfl hS) (l_X9_hasRoom_20 rfl hS))
def g_X9_append_48 (S : MZ) : Option (Unit × MZ) := (some ((), S))
theorem l_X9_append_48 {S : Mem} {S' : MZ} (hS : tz S = S') : Lf tU (f_X9_append_48 S) = g_X9_append_48 S' := by
  unfold f_X9_append_48 g_X9_append_48
  exact (Lf_some rfl hS)
def g_X9_append_3B (k3 : Int → Int → MZ → Option (Unit × MZ)) (v1 : Int) (v2 : Int) (S : MZ) : Option (Unit × MZ) := (if v2 < 0 then (g_X9_append_48 S) else (if 400 ≤ (zI S 2 0) then (g_X9_append_48 S) else (if (0 ≤ (zI S 2 0) ∧ (zI S 2 0) < ((400 : Nat) : Int)) then (k3 v1 (w32 (v2 + (-8))) (uI (uI S 3 ((zI S 2 0)).toNat (w8 (w8 (shr32 v1 (and32 v2 31))))) 2 0 (w32 ((zI (uI S 3 ((zI S 2 0)).toNat (w8 (w8 (shr32 v1 (and32 v2 31))))) 2 0) + 1)))) else none)))
theorem l_X9_append_3B {k3 : Int32 → Int32 → Mem → Option (Unit × Mem)} {k3' : Int → Int → MZ → Option (Unit × MZ)} (hk3 : ∀ {x0 : Int32} {x1 : Int32} {x2 : Mem} {y0 : Int} {y1 : Int} {y2 : MZ}, tI x0 = y0 → tI x1 = y1 → tz x2 = y2 → Lf tU (k3 x0 x1 x2) = k3' y0 y1 y2) {v1 : Int32} {v1' : Int} (hv1 : tI v1 = v1') {v2 : Int32} {v2' : Int} (hv2 : tI v2 = v2') {S : Mem} {S' : MZ} (hS : tz S = S') : Lf tU (f_X9_append_3B k3 v1 v2 S) = g_X9_append_3B k3' v1' v2' S' := by
  unfold f_X9_append_3B g_X9_append_3B
  exact (Lf_if (cI_lt hv2 rfl) (l_X9_append_48 hS) (Lf_if (cI_le rfl (pI_g hS rfl rfl)) (l_X9_append_48 hS) (Lf_if (c_inb (pI_g hS rfl rfl) rfl) (hk3 hv1 (pI_add hv2 rfl) (pM_I (pM_I hS rfl (pN_of (pI_g hS rfl rfl)) (pI_w8 (pI_w8 (pI_shr hv1 (pI_and hv2 rfl))))) rfl rfl (pI_add (pI_g (pM_I hS rfl (pN_of (pI_g hS rfl rfl)) (pI_w8 (pI_w8 (pI_shr hv1 (pI_and hv2 rfl))))) rfl rfl) rfl))) rfl)))
def g_X9_append_3 : Nat → Int → Int → MZ → Option (Unit × MZ)
  | 0 => fun _ _ _ => none
  | n + 1 => g_X9_append_3B (g_X9_append_3 n)
theorem l_X9_append_3 : ∀ (n : Nat) {x0 : Int32} {x1 : Int32} {x2 : Mem} {y0 : Int} {y1 : Int} {y2 : MZ}, tI x0 = y0 → tI x1 = y1 → tz x2 = y2 → Lf tU (f_X9_append_3 n x0 x1 x2) = g_X9_append_3 n y0 y1 y2
  | 0, _, _, _, _, _, _, _, _, _ => rfl
  | n + 1, _, _, _, _, _, _, e0, e1, e2 => l_X9_append_3B (fun de0 de1 de2 => l_X9_append_3 n de0 de1 de2) e0 e1 e2
def g_X9_append (p1 : Int) (S : MZ) : Option (Unit × MZ) := (g_X9_append_3 100000 p1 24 S)
theorem l_X9_append {p1 : Int32} {p1' : Int} (hp1 : tI p1 = p1') {S : Mem} {S' : MZ} (hS : tz S = S') : Lf tU (f_X9_append p1 S) = g_X9_append p1' S' := by
  unfold f_X9_append g_X9_append
  exact (l_X9_append_3 100000 hp1 rfl hS)
def g_X11_feed (p1 : Int) (p2 : Int) (p3 : Int) (p4 : Int) (p5 : Int) (S : MZ) : Option (Int × MZ) := ((g_X9_hasRoom S).bind fun q4 => (if q4.1 = 0 then (some ((-1), q4.2)) else ((g_X9_append p1 q4.2).bind fun q17 => ((g_X9_append p2 q17.2).bind fun q25 => ((g_X9_append p3 q25.2).bind fun q33 => ((g_X9_append p4 q33.2).bind fun q42 => ((g_X9_append p5 q42.2).bind fun q51 => (some ((zI q51.2 2 0), q51.2)))))))))
theorem l_X11_feed {p1 : Int32} {p1' : Int} (hp1 : tI p1 = p1') {p2 : Int32} {p2' : Int} (hp2 : tI p2 = p2') {p3 : Int32} {p3' : Int} (hp3 : tI p3 = p3') {p4 : Int32} {p4' : Int} (hp4 : tI p4 = p4') {p5 : Int32} {p5' : Int} (hp5 : tI p5 = p5') {S : Mem} {S' : MZ} (hS : tz S = S') : Lf tI (f_X11_feed p1 p2 p3 p4 p5 S) = g_X11_feed p1' p2' p3' p4' p5' S' := by
  unfold f_X11_feed g_X11_feed
  exact (Lf_bind (l_X9_hasRoom hS) (fun q4 => (Lf_if (cI_eq rfl rfl) (Lf_some rfl rfl) (Lf_bind (l_X9_append hp1 rfl) (fun q17 => (Lf_bind (l_X9_append hp2 rfl) (fun q25 => (Lf_bind (l_X9_append hp3 rfl) (fun q33 => (Lf_bind (l_X9_append hp4 rfl) (fun q42 => (Lf_bind (l_X9_append hp5 rfl) (fun q51 => (Lf_some (pI_g rfl rfl rfl) rfl))))))))))))))
def g_X11_end_15 (S : MZ) : Option (Int × MZ) := (some ((-1), S))
theorem l_X11_end_15 {S : Mem} {S' : MZ} (hS : tz S = S') : Lf tI (f_X11_end_15 S) = g_X11_end_15 S' := by
  unfold f_X11_end_15 g_X11_end_15
  exact (Lf_some rfl hS)
def g_X11_end (p1 : Int) (S : MZ) : Option (Int × MZ) := (if p1 < 0 then (g_X11_end_15 S) else (if p1 ≤ (zI S 2 0) then (some (p1, (uI S 2 0 p1))) else (g_X11_end_15 S)))
theorem l_X11_end {p1 : Int32} {p1' : Int} (hp1 : tI p1 = p1') {S : Mem} {S' : MZ} (hS : tz S = S') : Lf tI (f_X11_end p1 S) = g_X11_end p1' S' := by
  unfold f_X11_end g_X11_end
  exact (Lf_if (cI_lt hp1 rfl) (l_X11_end_15 hS) (Lf_if (cI_le hp1 (pI_g hS rfl rfl)) (Lf_some hp1 (pM_I hS rfl rfl hp1)) (l_X11_end_15 hS)))
def g_X11_market (S : MZ) : Option (Int × MZ) := ((g_X3_read S).bind fun q4 => (if q4.1 = 0 then (some ((w32 ((-2) - (zI (uI q4.2 2 0 0) 2 1))), (uI q4.2 2 0 0))) else ((g_X2_copyFrom 78 143 (uI q4.2 2 0 0)).bind fun q39 => (some ((zI q39.2 78 2), q39.2)))))
theorem l_X11_market {S : Mem} {S' : MZ} (hS : tz S = S') : Lf tI (f_X11_market S) = g_X11_market S' := by
  unfold f_X11_market g_X11_market
  exact (Lf_bind (l_X3_read hS) (fun q4 => (Lf_if (cI_eq rfl rfl) (Lf_some (pI_sub rfl (pI_g (pM_I rfl rfl rfl rfl) rfl rfl)) (pM_I rfl rfl rfl rfl)) (Lf_bind (l_X2_copyFrom rfl rfl (pM_I rfl rfl rfl rfl)) (fun q39 => (Lf_some (pI_g rfl rfl rfl) rfl))))))
def g_X11_bundle_95 (S : MZ) : Option (Int × MZ) := (if (zI S 9 1) = 0 then (some ((zI S 9 0), S)) else ((g_X2_copyFrom 78 143 S).bind fun q113 => (some ((w32 ((-2) - (zI q113.2 9 1))), q113.2))))
theorem l_X11_bundle_95 {S : Mem} {S' : MZ} (hS : tz S = S') : Lf tI (f_X11_bundle_95 S) = g_X11_bundle_95 S' := by
  unfold f_X11_bundle_95 g_X11_bundle_95
  exact (Lf_if (cI_eq (pI_g hS rfl rfl) rfl) (Lf_some (pI_g hS rfl rfl) hS) (Lf_bind (l_X2_copyFrom rfl rfl hS) (fun q113 => (Lf_some (pI_sub rfl (pI_g rfl rfl rfl)) rfl))))
def g_X11_bundle_65B (k65 : Int → MZ → Option (Int × MZ)) (v3 : Int) (S : MZ) : Option (Int × MZ) := (if 1000 ≤ v3 then (g_X11_bundle_95 S) else ((g_X5_goesOn S).bind fun q76 => (if q76.1 = 0 then (g_X11_bundle_95 q76.2) else ((g_X5_turn q76.2).bind fun q86 => (k65 (w32 (v3 + 1)) q86.2)))))
theorem l_X11_bundle_65B {k65 : Int32 → Mem → Option (Int32 × Mem)} {k65' : Int → MZ → Option (Int × MZ)} (hk65 : ∀ {x0 : Int32} {x1 : Mem} {y0 : Int} {y1 : MZ}, tI x0 = y0 → tz x1 = y1 → Lf tI (k65 x0 x1) = k65' y0 y1) {v3 : Int32} {v3' : Int} (hv3 : tI v3 = v3') {S : Mem} {S' : MZ} (hS : tz S = S') : Lf tI (f_X11_bundle_65B k65 v3 S) = g_X11_bundle_65B k65' v3' S' := by
  unfold f_X11_bundle_65B g_X11_bundle_65B
  exact (Lf_if (cI_le rfl hv3) (l_X11_bundle_95 hS) (Lf_bind (l_X5_goesOn hS) (fun q76 => (Lf_if (cI_eq rfl rfl) (l_X11_bundle_95 rfl) (Lf_bind (l_X5_turn rfl) (fun q86 => (hk65 (pI_add hv3 rfl) rfl)))))))
def g_X11_bundle_65 : Nat → Int → MZ → Option (Int × MZ)
  | 0 => fun _ _ => none
  | n + 1 => g_X11_bundle_65B (g_X11_bundle_65 n)
theorem l_X11_bundle_65 : ∀ (n : Nat) {x0 : Int32} {x1 : Mem} {y0 : Int} {y1 : MZ}, tI x0 = y0 → tz x1 = y1 → Lf tI (f_X11_bundle_65 n x0 x1) = g_X11_bundle_65 n y0 y1
  | 0, _, _, _, _, _, _ => rfl
  | n + 1, _, _, _, _, e0, e1 => l_X11_bundle_65B (fun de0 de1 => l_X11_bundle_65 n de0 de1) e0 e1
def g_X11_bundle (p1 : Int) (S : MZ) : Option (Int × MZ) := ((g_X2_hasPerson 78 p1 S).bind fun q5 => (if q5.1 = 0 then (some ((-1), q5.2)) else ((g_X6_compile q5.2).bind fun q17 => (if q17.1 = 0 then (some ((w32 ((-2) - (zI (uI q17.2 2 0 0) 2 1))), (uI q17.2 2 0 0))) else ((g_X2_copyFrom 143 78 (uI q17.2 2 0 0)).bind fun q52 => ((g_X5_start p1 q52.2).bind fun q60 => (g_X11_bundle_65 100000 0 q60.2)))))))
theorem l_X11_bundle {p1 : Int32} {p1' : Int} (hp1 : tI p1 = p1') {S : Mem} {S' : MZ} (hS : tz S = S') : Lf tI (f_X11_bundle p1 S) = g_X11_bundle p1' S' := by
  unfold f_X11_bundle g_X11_bundle
  exact (Lf_bind (l_X2_hasPerson rfl hp1 hS) (fun q5 => (Lf_if (cI_eq rfl rfl) (Lf_some rfl rfl) (Lf_bind (l_X6_compile rfl) (fun q17 => (Lf_if (cI_eq rfl rfl) (Lf_some (pI_sub rfl (pI_g (pM_I rfl rfl rfl rfl) rfl rfl)) (pM_I rfl rfl rfl rfl)) (Lf_bind (l_X2_copyFrom rfl rfl (pM_I rfl rfl rfl rfl)) (fun q52 => (Lf_bind (l_X5_start hp1 rfl) (fun q60 => (l_X11_bundle_65 100000 rfl rfl)))))))))))
def g_X11_root_15 (s0 : Int) (S : MZ) : Option (Int × MZ) := (some (s0, S))
theorem l_X11_root_15 {s0 : Int32} {s0' : Int} (hs0 : tI s0 = s0') {S : Mem} {S' : MZ} (hS : tz S = S') : Lf tI (f_X11_root_15 s0 S) = g_X11_root_15 s0' S' := by
  unfold f_X11_root_15 g_X11_root_15
  exact (Lf_some hs0 hS)
def g_X11_root (p1 : Int) (S : MZ) : Option (Int × MZ) := ((g_X11_isTick p1 S).bind fun q1 => (if q1.1 = 0 then (g_X11_root_15 (-1) q1.2) else ((g_X0_rootAt p1 q1.2).bind fun q8 => (g_X11_root_15 q8.1 q8.2))))
theorem l_X11_root {p1 : Int32} {p1' : Int} (hp1 : tI p1 = p1') {S : Mem} {S' : MZ} (hS : tz S = S') : Lf tI (f_X11_root p1 S) = g_X11_root p1' S' := by
  unfold f_X11_root g_X11_root
  exact (Lf_bind (l_X11_isTick hp1 hS) (fun q1 => (Lf_if (cI_eq rfl rfl) (l_X11_root_15 rfl rfl) (Lf_bind (l_X0_rootAt hp1 rfl) (fun q8 => (l_X11_root_15 rfl rfl))))))
def g_X11_purse_35 (s0 : Int) (S : MZ) : Option (Int × MZ) := (some (s0, S))
theorem l_X11_purse_35 {s0 : Int32} {s0' : Int} (hs0 : tI s0 = s0') {S : Mem} {S' : MZ} (hS : tz S = S') : Lf tI (f_X11_purse_35 s0 S) = g_X11_purse_35 s0' S' := by
  unfold f_X11_purse_35 g_X11_purse_35
  exact (Lf_some hs0 hS)
def g_X11_purse_34 (S : MZ) : Option (Int × MZ) := (g_X11_purse_35 (-1) S)
theorem l_X11_purse_34 {S : Mem} {S' : MZ} (hS : tz S = S') : Lf tI (f_X11_purse_34 S) = g_X11_purse_34 S' := by
  unfold f_X11_purse_34 g_X11_purse_34
  exact (l_X11_purse_35 rfl hS)
def g_X11_purse (p1 : Int) (p2 : Int) (S : MZ) : Option (Int × MZ) := ((g_X2_hasPerson 78 p1 S).bind fun q5 => (if q5.1 = 0 then (g_X11_purse_34 q5.2) else ((g_X2_hasThing 78 p2 q5.2).bind fun q16 => (if q16.1 = 0 then (g_X11_purse_34 q16.2) else ((g_X2_purseOf 78 p1 p2 q16.2).bind fun q28 => (g_X11_purse_35 q28.1 q28.2))))))
theorem l_X11_purse {p1 : Int32} {p1' : Int} (hp1 : tI p1 = p1') {p2 : Int32} {p2' : Int} (hp2 : tI p2 = p2') {S : Mem} {S' : MZ} (hS : tz S = S') : Lf tI (f_X11_purse p1 p2 S) = g_X11_purse p1' p2' S' := by
  unfold f_X11_purse g_X11_purse
  exact (Lf_bind (l_X2_hasPerson rfl hp1 hS) (fun q5 => (Lf_if (cI_eq rfl rfl) (l_X11_purse_34 rfl) (Lf_bind (l_X2_hasThing rfl hp2 rfl) (fun q16 => (Lf_if (cI_eq rfl rfl) (l_X11_purse_34 rfl) (Lf_bind (l_X2_purseOf rfl hp1 hp2 rfl) (fun q28 => (l_X11_purse_35 rfl rfl)))))))))
def g_X11_pool (p1 : Int) (p2 : Int) (S : MZ) : Option (Int × MZ) := ((g_X2_poolAt 78 p1 S).bind fun q5 => (if q5.1 = 0 then (some ((-1), q5.2)) else (if p2 = 0 then (if kd q5.1 = (3, 12) then (some ((zI q5.2 q5.1 0), q5.2)) else none) else (if p2 = 1 then (if kd q5.1 = (3, 12) then (some ((zI q5.2 q5.1 1), q5.2)) else none) else (if p2 = 2 then (if kd q5.1 = (3, 12) then (some ((zI q5.2 q5.1 2), q5.2)) else none) else (if p2 = 3 then (if kd q5.1 = (3, 12) then (some ((zI q5.2 q5.1 3), q5.2)) else none) else (if p2 = 4 then (if kd q5.1 = (3, 12) then (some ((zI q5.2 q5.1 4), q5.2)) else none) else (if p2 = 5 then (if kd q5.1 = (3, 12) then (some ((zI q5.2 q5.1 6), q5.2)) else none) else (if p2 = 6 then (if kd q5.1 = (3, 12) then (some ((zI q5.2 q5.1 5), q5.2)) else none) else (if p2 = 7 then (if kd q5.1 = (3, 12) then ((g_X2_liquidityAt 78 p1 (zI q5.2 q5.1 6) q5.2).bind fun q132 => (some ((w32 q132.1), q132.2))) else none) else (if p2 = 8 then (if kd q5.1 = (3, 12) then (some ((zI q5.2 (q5.1 + 1) 0), q5.2)) else none) else (if p2 = 9 then (if kd q5.1 = (3, 12) then (some ((zI q5.2 (q5.1 + 1) 1), q5.2)) else none) else (if p2 = 10 then (if kd q5.1 = (3, 12) then (some ((zI q5.2 (q5.1 + 2) 0), q5.2)) else none) else (if p2 = 11 then (if kd q5.1 = (3, 12) then (some ((zI q5.2 (q5.1 + 2) 1), q5.2)) else none) else (if p2 = 12 then ((g_X2_overIn 78 p1 0 q5.2).bind fun q171 => (some ((w32 q171.1), q171.2))) else (if p2 = 13 then ((g_X2_overIn 78 p1 1 q5.2).bind fun q182 => (some ((w32 q182.1), q182.2))) else (some ((-1), q5.2))))))))))))))))))
theorem l_X11_pool {p1 : Int32} {p1' : Int} (hp1 : tI p1 = p1') {p2 : Int32} {p2' : Int} (hp2 : tI p2 = p2') {S : Mem} {S' : MZ} (hS : tz S = S') : Lf tI (f_X11_pool p1 p2 S) = g_X11_pool p1' p2' S' := by
  unfold f_X11_pool g_X11_pool
  exact (Lf_bind (l_X2_poolAt rfl hp1 hS) (fun q5 => (Lf_if (cR_eq rfl rfl) (Lf_some rfl rfl) (Lf_if (cI_eq hp2 rfl) (Lf_if (c_kd rfl) (Lf_some (pI_g rfl rfl rfl) rfl) rfl) (Lf_if (cI_eq hp2 rfl) (Lf_if (c_kd rfl) (Lf_some (pI_g rfl rfl rfl) rfl) rfl) (Lf_if (cI_eq hp2 rfl) (Lf_if (c_kd rfl) (Lf_some (pI_g rfl rfl rfl) rfl) rfl) (Lf_if (cI_eq hp2 rfl) (Lf_if (c_kd rfl) (Lf_some (pI_g rfl rfl rfl) rfl) rfl) (Lf_if (cI_eq hp2 rfl) (Lf_if (c_kd rfl) (Lf_some (pI_g rfl rfl rfl) rfl) rfl) (Lf_if (cI_eq hp2 rfl) (Lf_if (c_kd rfl) (Lf_some (pI_g rfl rfl rfl) rfl) rfl) (Lf_if (cI_eq hp2 rfl) (Lf_if (c_kd rfl) (Lf_some (pI_g rfl rfl rfl) rfl) rfl) (Lf_if (cI_eq hp2 rfl) (Lf_if (c_kd rfl) (Lf_bind (l_X2_liquidityAt rfl hp1 (pI_g rfl rfl rfl) rfl) (fun q132 => (Lf_some (pI_of rfl) rfl))) rfl) (Lf_if (cI_eq hp2 rfl) (Lf_if (c_kd rfl) (Lf_some (pI_g rfl rfl (pN_of (a' := 0) rfl)) rfl) rfl) (Lf_if (cI_eq hp2 rfl) (Lf_if (c_kd rfl) (Lf_some (pI_g rfl rfl (pN_of (a' := 1) rfl)) rfl) rfl) (Lf_if (cI_eq hp2 rfl) (Lf_if (c_kd rfl) (Lf_some (pI_g rfl rfl (pN_of (a' := 0) rfl)) rfl) rfl) (Lf_if (cI_eq hp2 rfl) (Lf_if (c_kd rfl) (Lf_some (pI_g rfl rfl (pN_of (a' := 1) rfl)) rfl) rfl) (Lf_if (cI_eq hp2 rfl) (Lf_bind (l_X2_overIn rfl hp1 rfl rfl) (fun q171 => (Lf_some (pI_of rfl) rfl))) (Lf_if (cI_eq hp2 rfl) (Lf_bind (l_X2_overIn rfl hp1 rfl rfl) (fun q182 => (Lf_some (pI_of rfl) rfl))) (Lf_some rfl rfl))))))))))))))))))
def g_X11_isZone_15 (s0 : Int) (S : MZ) : Option (Int × MZ) := (if (s0 = 0 ∨ s0 = 1) then (some (s0, S)) else none)
theorem l_X11_isZone_15 {s0 : Int32} {s0' : Int} (hs0 : tI s0 = s0') {S : Mem} {S' : MZ} (hS : tz S = S') : Lf tI (f_X11_isZone_15 s0 S) = g_X11_isZone_15 s0' S' := by
  unfold f_X11_isZone_15 g_X11_isZone_15
  exact (Lf_if (c_isB hs0) (Lf_some hs0 hS) rfl)
def g_X11_isZone_14 (S : MZ) : Option (Int × MZ) := (g_X11_isZone_15 0 S)
theorem l_X11_isZone_14 {S : Mem} {S' : MZ} (hS : tz S = S') : Lf tI (f_X11_isZone_14 S) = g_X11_isZone_14 S' := by
  unfold f_X11_isZone_14 g_X11_isZone_14
  exact (l_X11_isZone_15 rfl hS)
def g_X11_isZone (p0 : Int) (S : MZ) : Option (Int × MZ) := (if p0 < 0 then (g_X11_isZone_14 S) else (if 40 ≤ p0 then (g_X11_isZone_14 S) else (g_X11_isZone_15 1 S)))
theorem l_X11_isZone {p0 : Int32} {p0' : Int} (hp0 : tI p0 = p0') {S : Mem} {S' : MZ} (hS : tz S = S') : Lf tI (f_X11_isZone p0 S) = g_X11_isZone p0' S' := by
  unfold f_X11_isZone g_X11_isZone
  exact (Lf_if (cI_lt hp0 rfl) (l_X11_isZone_14 hS) (Lf_if (cI_le rfl hp0) (l_X11_isZone_14 hS) (l_X11_isZone_15 rfl hS)))
def g_X11_depth_32 (s0 : Int) (S : MZ) : Option (Int × MZ) := (some (s0, S))
theorem l_X11_depth_32 {s0 : Int32} {s0' : Int} (hs0 : tI s0 = s0') {S : Mem} {S' : MZ} (hS : tz S = S') : Lf tI (f_X11_depth_32 s0 S) = g_X11_depth_32 s0' S' := by
  unfold f_X11_depth_32 g_X11_depth_32
  exact (Lf_some hs0 hS)
def g_X11_depth_31 (S : MZ) : Option (Int × MZ) := (g_X11_depth_32 (-1) S)
theorem l_X11_depth_31 {S : Mem} {S' : MZ} (hS : tz S = S') : Lf tI (f_X11_depth_31 S) = g_X11_depth_31 S' := by
  unfold f_X11_depth_31 g_X11_depth_31
  exact (l_X11_depth_32 rfl hS)
def g_X11_depth (p1 : Int) (p2 : Int) (S : MZ) : Option (Int × MZ) := ((g_X2_poolAt 78 p1 S).bind fun q5 => (if q5.1 = 0 then (g_X11_depth_31 q5.2) else ((g_X11_isZone p2 q5.2).bind fun q12 => (if q12.1 = 0 then (g_X11_depth_31 q12.2) else ((g_X2_liquidityAt 78 p1 p2 q12.2).bind fun q24 => (g_X11_depth_32 (w32 q24.1) q24.2))))))
theorem l_X11_depth {p1 : Int32} {p1' : Int} (hp1 : tI p1 = p1') {p2 : Int32} {p2' : Int} (hp2 : tI p2 = p2') {S : Mem} {S' : MZ} (hS : tz S = S') : Lf tI (f_X11_depth p1 p2 S) = g_X11_depth p1' p2' S' := by
  unfold f_X11_depth g_X11_depth
  exact (Lf_bind (l_X2_poolAt rfl hp1 hS) (fun q5 => (Lf_if (cR_eq rfl rfl) (l_X11_depth_31 rfl) (Lf_bind (l_X11_isZone hp2 rfl) (fun q12 => (Lf_if (cI_eq rfl rfl) (l_X11_depth_31 rfl) (Lf_bind (l_X2_liquidityAt rfl hp1 hp2 rfl) (fun q24 => (l_X11_depth_32 (pI_of rfl) rfl)))))))))
def g_X11_stake_187 (s0 : Int) (S : MZ) : Option (Int × MZ) := (some (s0, S))
theorem l_X11_stake_187 {s0 : Int32} {s0' : Int} (hs0 : tI s0 = s0') {S : Mem} {S' : MZ} (hS : tz S = S') : Lf tI (f_X11_stake_187 s0 S) = g_X11_stake_187 s0' S' := by
  unfold f_X11_stake_187 g_X11_stake_187
  exact (Lf_some hs0 hS)
def g_X11_stake_28 (v2 : Int) (v3 : Nat) (s0 : Nat) (S : MZ) : Option (Int × MZ) := (if s0 = 0 then (some ((-1), S)) else (if v2 = 0 then (if kd v3 = (6, 8) then (some ((zI S v3 0), S)) else none) else (if v2 = 1 then (if kd v3 = (6, 8) then (some ((zI S v3 1), S)) else none) else (if v2 = 2 then (if kd v3 = (6, 8) then (some ((zI S v3 2), S)) else none) else (if v2 = 3 then (if kd v3 = (6, 8) then (some ((zI S v3 3), S)) else none) else (if v2 = 4 then (if kd v3 = (6, 8) then (some ((zI S v3 4), S)) else none) else (if v2 = 5 then (if kd v3 = (6, 8) then (some ((zI S v3 5), S)) else none) else (if v2 = 6 then (if kd v3 = (6, 8) then ((g_X7_liesIn v3 s0 (zI S v3 5) 0 0 S).bind fun q136 => (some ((w32 q136.1), q136.2))) else none) else (if v2 = 7 then (if kd v3 = (6, 8) then ((g_X7_liesIn v3 s0 (zI S v3 5) 1 0 S).bind fun q151 => (some ((w32 q151.1), q151.2))) else none) else (if v2 = 8 then (if kd v3 = (6, 8) then ((g_X7_owed v3 0 S).bind fun q158 => (some ((w32 q158.1), q158.2))) else none) else (if v2 = 9 then (if kd v3 = (6, 8) then ((g_X7_owed v3 1 S).bind fun q165 => (some ((w32 q165.1), q165.2))) else none) else (if v2 = 10 then (if kd s0 = (3, 12) then (if kd v3 = (6, 8) then ((g_X7_reaches v3 (zI S s0 6) S).bind fun q176 => (if q176.1 = 0 then (g_X11_stake_187 0 q176.2) else (g_X11_stake_187 1 q176.2))) else none) else none) else (some ((-1), S))))))))))))))
theorem l_X11_stake_28 {v2 : Int32} {v2' : Int} (hv2 : tI v2 = v2') {v3 : Nat} {v3' : Nat} (hv3 : v3 = v3') {s0 : Nat} {s0' : Nat} (hs0 : s0 = s0') {S : Mem} {S' : MZ} (hS : tz S = S') : Lf tI (f_X11_stake_28 v2 v3 s0 S) = g_X11_stake_28 v2' v3' s0' S' := by
  unfold f_X11_stake_28 g_X11_stake_28
  exact (Lf_if (cR_eq hs0 rfl) (Lf_some rfl hS) (Lf_if (cI_eq hv2 rfl) (Lf_if (c_kd hv3) (Lf_some (pI_g hS hv3 rfl) hS) rfl) (Lf_if (cI_eq hv2 rfl) (Lf_if (c_kd hv3) (Lf_some (pI_g hS hv3 rfl) hS) rfl) (Lf_if (cI_eq hv2 rfl) (Lf_if (c_kd hv3) (Lf_some (pI_g hS hv3 rfl) hS) rfl) (Lf_if (cI_eq hv2 rfl) (Lf_if (c_kd hv3) (Lf_some (pI_g hS hv3 rfl) hS) rfl) (Lf_if (cI_eq hv2 rfl) (Lf_if (c_kd hv3) (Lf_some (pI_g hS hv3 rfl) hS) rfl) (Lf_if (cI_eq hv2 rfl) (Lf_if (c_kd hv3) (Lf_some (pI_g hS hv3 rfl) hS) rfl) (Lf_if (cI_eq hv2 rfl) (Lf_if (c_kd hv3) (Lf_bind (l_X7_liesIn hv3 hs0 (pJ_of (pI_g hS hv3 rfl)) rfl rfl hS) (fun q136 => (Lf_some (pI_of rfl) rfl))) rfl) (Lf_if (cI_eq hv2 rfl) (Lf_if (c_kd hv3) (Lf_bind (l_X7_liesIn hv3 hs0 (pJ_of (pI_g hS hv3 rfl)) rfl rfl hS) (fun q151 => (Lf_some (pI_of rfl) rfl))) rfl) (Lf_if (cI_eq hv2 rfl) (Lf_if (c_kd hv3) (Lf_bind (l_X7_owed hv3 rfl hS) (fun q158 => (Lf_some (pI_of rfl) rfl))) rfl) (Lf_if (cI_eq hv2 rfl) (Lf_if (c_kd hv3) (Lf_bind (l_X7_owed hv3 rfl hS) (fun q165 => (Lf_some (pI_of rfl) rfl))) rfl) (Lf_if (cI_eq hv2 rfl) (Lf_if (c_kd hs0) (Lf_if (c_kd hv3) (Lf_bind (l_X7_reaches hv3 (pI_g hS hs0 rfl) hS) (fun q176 => (Lf_if (cI_eq rfl rfl) (l_X11_stake_187 rfl rfl) (l_X11_stake_187 rfl rfl)))) rfl) rfl) (Lf_some rfl hS)))))))))))))
def g_X11_stake (p1 : Int) (p2 : Int) (S : MZ) : Option (Int × MZ) := ((g_X2_stakeAt 78 p1 S).bind fun q5 => (if q5.1 = 0 then (g_X11_stake_28 p2 q5.1 0 q5.2) else (if kd q5.1 = (6, 8) then ((g_X2_poolAt 78 (zI q5.2 q5.1 1) q5.2).bind fun q25 => (g_X11_stake_28 p2 q5.1 q25.1 q25.2)) else none)))
theorem l_X11_stake {p1 : Int32} {p1' : Int} (hp1 : tI p1 = p1') {p2 : Int32} {p2' : Int} (hp2 : tI p2 = p2') {S : Mem} {S' : MZ} (hS : tz S = S') : Lf tI (f_X11_stake p1 p2 S) = g_X11_stake p1' p2' S' := by
  unfold f_X11_stake g_X11_stake
  exact (Lf_bind (l_X2_stakeAt rfl hp1 hS) (fun q5 => (Lf_if (cR_eq rfl rfl) (l_X11_stake_28 hp2 rfl rfl rfl) (Lf_if (c_kd rfl) (Lf_bind (l_X2_poolAt rfl (pI_g rfl rfl rfl) rfl) (fun q25 => (l_X11_stake_28 hp2 rfl rfl rfl))) rfl))))
def g_X11_add (p1 : Int) (p2 : Int) (p3 : Int) (p4 : Int) (p5 : Int) (p6 : Int) (S : MZ) : Option (Int × MZ) := ((g_X2_addStake 78 p1 p2 p3 p4 p5 p6 S).bind fun q13 => (some (q13.1, q13.2)))
theorem l_X11_add {p1 : Int32} {p1' : Int} (hp1 : tI p1 = p1') {p2 : Int32} {p2' : Int} (hp2 : tI p2 = p2') {p3 : Int32} {p3' : Int} (hp3 : tI p3 = p3') {p4 : Int32} {p4' : Int} (hp4 : tI p4 = p4') {p5 : Int32} {p5' : Int} (hp5 : tI p5 = p5') {p6 : Int32} {p6' : Int} (hp6 : tI p6 = p6') {S : Mem} {S' : MZ} (hS : tz S = S') : Lf tI (f_X11_add p1 p2 p3 p4 p5 p6 S) = g_X11_add p1' p2' p3' p4' p5' p6' S' := by
  unfold f_X11_add g_X11_add
  exact (Lf_bind (l_X2_addStake rfl hp1 hp2 hp3 hp4 hp5 hp6 hS) (fun q13 => (Lf_some rfl rfl)))
def g_X11_take_26 (S : MZ) : Option (Int × MZ) := (some ((-1), S))
theorem l_X11_take_26 {S : Mem} {S' : MZ} (hS : tz S = S') : Lf tI (f_X11_take_26 S) = g_X11_take_26 S' := by
  unfold f_X11_take_26 g_X11_take_26
  exact (Lf_some rfl hS)
def g_X11_take (p1 : Int) (p2 : Int) (S : MZ) : Option (Int × MZ) := ((g_X2_stakeAt 78 p1 S).bind fun q5 => (if q5.1 = 0 then (g_X11_take_26 q5.2) else (if p2 < 1 then (g_X11_take_26 q5.2) else (if kd q5.1 = (6, 8) then (if p2 ≤ (zI q5.2 q5.1 5) then ((g_X2_withdraw 78 p1 p2 q5.2).bind fun q34 => (some ((zI q34.2 78 3), q34.2))) else (g_X11_take_26 q5.2)) else none))))
theorem l_X11_take {p1 : Int32} {p1' : Int} (hp1 : tI p1 = p1') {p2 : Int32} {p2' : Int} (hp2 : tI p2 = p2') {S : Mem} {S' : MZ} (hS : tz S = S') : Lf tI (f_X11_take p1 p2 S) = g_X11_take p1' p2' S' := by
  unfold f_X11_take g_X11_take
  exact (Lf_bind (l_X2_stakeAt rfl hp1 hS) (fun q5 => (Lf_if (cR_eq rfl rfl) (l_X11_take_26 rfl) (Lf_if (cI_lt hp2 rfl) (l_X11_take_26 rfl) (Lf_if (c_kd rfl) (Lf_if (cI_le hp2 (pI_g rfl rfl rfl)) (Lf_bind (l_X2_withdraw rfl hp1 hp2 rfl) (fun q34 => (Lf_some (pI_g rfl rfl rfl) rfl))) (l_X11_take_26 rfl)) rfl)))))
def g_X11_pay_57 (v2 : Nat) (v3 : Nat) (v4 : Int) (v5 : Int) (S : MZ) : Option (Int × MZ) := (if kd v2 = (6, 8) then ((g_X2_payOut 78 v3 0 (zI S v2 0) v4 S).bind fun q69 => ((g_X2_payOut 78 v3 1 (zI q69.2 v2 0) v5 q69.2).bind fun q84 => (some ((w32 (v4 + v5)), (uL (uL q84.2 (v2 + 2) 0 0) (v2 + 2) 1 0))))) else none)
theorem l_X11_pay_57 {v2 : Nat} {v2' : Nat} (hv2 : v2 = v2') {v3 : Nat} {v3' : Nat} (hv3 : v3 = v3') {v4 : Int32} {v4' : Int} (hv4 : tI v4 = v4') {v5 : Int32} {v5' : Int} (hv5 : tI v5 = v5') {S : Mem} {S' : MZ} (hS : tz S = S') : Lf tI (f_X11_pay_57 v2 v3 v4 v5 S) = g_X11_pay_57 v2' v3' v4' v5' S' := by
  unfold f_X11_pay_57 g_X11_pay_57
  exact (Lf_if (c_kd hv2) (Lf_bind (l_X2_payOut rfl hv3 rfl (pI_g hS hv2 rfl) hv4 hS) (fun q69 => (Lf_bind (l_X2_payOut rfl hv3 rfl (pI_g rfl hv2 rfl) hv5 rfl) (fun q84 => (Lf_some (pI_add hv4 hv5) (pM_L (pM_L rfl (pR_add hv2 rfl) (pN_of (a' := 0) rfl) rfl) (pR_add hv2 rfl) (pN_of (a' := 1) rfl) rfl)))))) rfl)
def g_X11_pay_48 (v2 : Nat) (v3 : Nat) (v4 : Int) (S : MZ) : Option (Int × MZ) := (if kd v2 = (6, 8) then (g_X11_pay_57 v2 v3 v4 (w32 (zL S (v2 + 2) 1)) S) else none)
theorem l_X11_pay_48 {v2 : Nat} {v2' : Nat} (hv2 : v2 = v2') {v3 : Nat} {v3' : Nat} (hv3 : v3 = v3') {v4 : Int32} {v4' : Int} (hv4 : tI v4 = v4') {S : Mem} {S' : MZ} (hS : tz S = S') : Lf tI (f_X11_pay_48 v2 v3 v4 S) = g_X11_pay_48 v2' v3' v4' S' := by
  unfold f_X11_pay_48 g_X11_pay_48
  exact (Lf_if (c_kd hv2) (l_X11_pay_57 hv2 hv3 hv4 (pI_of (pJ_g hS (pR_add hv2 rfl) (pN_of (a' := 1) rfl))) hS) rfl)
def g_X11_pay_28 (v2 : Nat) (s0 : Nat) (S : MZ) : Option (Int × MZ) := (if s0 = 0 then (some ((-1), S)) else (if kd v2 = (6, 8) then ((g_X7_settle v2 S).bind fun q36 => (g_X11_pay_48 v2 s0 (w32 (zL q36.2 (v2 + 2) 0)) q36.2)) else none))
theorem l_X11_pay_28 {v2 : Nat} {v2' : Nat} (hv2 : v2 = v2') {s0 : Nat} {s0' : Nat} (hs0 : s0 = s0') {S : Mem} {S' : MZ} (hS : tz S = S') : Lf tI (f_X11_pay_28 v2 s0 S) = g_X11_pay_28 v2' s0' S' := by
  unfold f_X11_pay_28 g_X11_pay_28
  exact (Lf_if (cR_eq hs0 rfl) (Lf_some rfl hS) (Lf_if (c_kd hv2) (Lf_bind (l_X7_settle hv2 hS) (fun q36 => (l_X11_pay_48 hv2 hs0 (pI_of (pJ_g rfl (pR_add hv2 rfl) (pN_of (a' := 0) rfl))) rfl))) rfl))
def g_X11_pay (p1 : Int) (S : MZ) : Option (Int × MZ) := ((g_X2_stakeAt 78 p1 S).bind fun q5 => (if q5.1 = 0 then (g_X11_pay_28 q5.1 0 q5.2) else (if kd q5.1 = (6, 8) then ((g_X2_poolAt 78 (zI q5.2 q5.1 1) q5.2).bind fun q25 => (g_X11_pay_28 q5.1 q25.1 q25.2)) else none)))
theorem l_X11_pay {p1 : Int32} {p1' : Int} (hp1 : tI p1 = p1') {S : Mem} {S' : MZ} (hS : tz S = S') : Lf tI (f_X11_pay p1 S) = g_X11_pay p1' S' := by
  unfold f_X11_pay g_X11_pay
  exact (Lf_bind (l_X2_stakeAt rfl hp1 hS) (fun q5 => (Lf_if (cR_eq rfl rfl) (l_X11_pay_28 rfl rfl rfl) (Lf_if (c_kd rfl) (Lf_bind (l_X2_poolAt rfl (pI_g rfl rfl rfl) rfl) (fun q25 => (l_X11_pay_28 rfl rfl rfl))) rfl))))
def g_X11_levy_30 (v2 : Nat) (v3 : Int) (v4 : Int) (S : MZ) : Option (Int × MZ) := ((g_X2_payOut 78 v2 0 0 v3 S).bind fun q38 => ((g_X2_payOut 78 v2 1 0 v4 q38.2).bind fun q50 => (if kd v2 = (3, 12) then (some ((w32 (v3 + v4)), (uI (uI q50.2 (v2 + 2) 0 0) (v2 + 2) 1 0))) else none)))
theorem l_X11_levy_30 {v2 : Nat} {v2' : Nat} (hv2 : v2 = v2') {v3 : Int32} {v3' : Int} (hv3 : tI v3 = v3') {v4 : Int32} {v4' : Int} (hv4 : tI v4 = v4') {S : Mem} {S' : MZ} (hS : tz S = S') : Lf tI (f_X11_levy_30 v2 v3 v4 S) = g_X11_levy_30 v2' v3' v4' S' := by
  unfold f_X11_levy_30 g_X11_levy_30
  exact (Lf_bind (l_X2_payOut rfl hv2 rfl rfl hv3 hS) (fun q38 => (Lf_bind (l_X2_payOut rfl hv2 rfl rfl hv4 rfl) (fun q50 => (Lf_if (c_kd hv2) (Lf_some (pI_add hv3 hv4) (pM_I (pM_I rfl (pR_add hv2 rfl) (pN_of (a' := 0) rfl) rfl) (pR_add hv2 rfl) (pN_of (a' := 1) rfl) rfl)) rfl)))))
def g_X11_levy_22 (v2 : Nat) (v3 : Int) (S : MZ) : Option (Int × MZ) := (if kd v2 = (3, 12) then (g_X11_levy_30 v2 v3 (zI S (v2 + 2) 1) S) else none)
theorem l_X11_levy_22 {v2 : Nat} {v2' : Nat} (hv2 : v2 = v2') {v3 : Int32} {v3' : Int} (hv3 : tI v3 = v3') {S : Mem} {S' : MZ} (hS : tz S = S') : Lf tI (f_X11_levy_22 v2 v3 S) = g_X11_levy_22 v2' v3' S' := by
  unfold f_X11_levy_22 g_X11_levy_22
  exact (Lf_if (c_kd hv2) (l_X11_levy_30 hv2 hv3 (pI_g hS (pR_add hv2 rfl) (pN_of (a' := 1) rfl)) hS) rfl)
def g_X11_levy (p1 : Int) (S : MZ) : Option (Int × MZ) := ((g_X2_poolAt 78 p1 S).bind fun q5 => (if q5.1 = 0 then (some ((-1), q5.2)) else (if kd q5.1 = (3, 12) then (g_X11_levy_22 q5.1 (zI q5.2 (q5.1 + 2) 0) q5.2) else none)))
theorem l_X11_levy {p1 : Int32} {p1' : Int} (hp1 : tI p1 = p1') {S : Mem} {S' : MZ} (hS : tz S = S') : Lf tI (f_X11_levy p1 S) = g_X11_levy p1' S' := by
  unfold f_X11_levy g_X11_levy
  exact (Lf_bind (l_X2_poolAt rfl hp1 hS) (fun q5 => (Lf_if (cR_eq rfl rfl) (Lf_some rfl rfl) (Lf_if (c_kd rfl) (l_X11_levy_22 rfl (pI_g rfl rfl (pN_of (a' := 0) rfl)) rfl) rfl))))
def g_X11_in_41 (S : MZ) : Option (Int × MZ) := (some ((-1), S))
theorem l_X11_in_41 {S : Mem} {S' : MZ} (hS : tz S = S') : Lf tI (f_X11_in_41 S) = g_X11_in_41 S' := by
  unfold f_X11_in_41 g_X11_in_41
  exact (Lf_some rfl hS)
def g_X11_in_68 (S : MZ) : Option (Int × MZ) := (some ((-1), S))
theorem l_X11_in_68 {S : Mem} {S' : MZ} (hS : tz S = S') : Lf tI (f_X11_in_68 S) = g_X11_in_68 S' := by
  unfold f_X11_in_68 g_X11_in_68
  exact (Lf_some rfl hS)
def g_X11_in (p1 : Int) (p2 : Int) (p3 : Int) (p4 : Int) (p5 : Int) (S : MZ) : Option (Int × MZ) := ((g_X2_poolAt 78 p2 S).bind fun q5 => (if q5.1 = 0 then (g_X11_in_41 q5.2) else ((g_X2_hasPerson 78 p1 q5.2).bind fun q20 => (if q20.1 = 0 then (g_X11_in_41 q20.2) else ((g_X11_isSide p3 q20.2).bind fun q27 => (if q27.1 = 0 then (g_X11_in_41 q27.2) else ((g_X11_isTick p5 q27.2).bind fun q35 => (if q35.1 = 0 then (g_X11_in_41 q35.2) else (if p4 < 1 then (g_X11_in_68 q35.2) else (if kd q5.1 = (3, 12) then ((g_X4_thingOn q5.1 p3 q35.2).bind fun q59 => ((g_X2_purseOf 78 p1 q59.1 q59.2).bind fun q62 => (if p4 ≤ q62.1 then ((g_X10_pour 78 p1 p2 p3 p4 p5 1 q62.2).bind fun q87 => (some ((w32 (zL q87.2 4 11)), q87.2))) else (g_X11_in_68 q62.2)))) else none))))))))))
theorem l_X11_in {p1 : Int32} {p1' : Int} (hp1 : tI p1 = p1') {p2 : Int32} {p2' : Int} (hp2 : tI p2 = p2') {p3 : Int32} {p3' : Int} (hp3 : tI p3 = p3') {p4 : Int32} {p4' : Int} (hp4 : tI p4 = p4') {p5 : Int32} {p5' : Int} (hp5 : tI p5 = p5') {S : Mem} {S' : MZ} (hS : tz S = S') : Lf tI (f_X11_in p1 p2 p3 p4 p5 S) = g_X11_in p1' p2' p3' p4' p5' S' := by
  unfold f_X11_in g_X11_in
  exact (Lf_bind (l_X2_poolAt rfl hp2 hS) (fun q5 => (Lf_if (cR_eq rfl rfl) (l_X11_in_41 rfl) (Lf_bind (l_X2_hasPerson rfl hp1 rfl) (fun q20 => (Lf_if (cI_eq rfl rfl) (l_X11_in_41 rfl) (Lf_bind (l_X11_isSide hp3 rfl) (fun q27 => (Lf_if (cI_eq rfl rfl) (l_X11_in_41 rfl) (Lf_bind (l_X11_isTick hp5 rfl) (fun q35 => (Lf_if (cI_eq rfl rfl) (l_X11_in_41 rfl) (Lf_if (cI_lt hp4 rfl) (l_X11_in_68 rfl) (Lf_if (c_kd rfl) (Lf_bind (l_X4_thingOn rfl hp3 rfl) (fun q59 => (Lf_bind (l_X2_purseOf rfl hp1 rfl rfl) (fun q62 => (Lf_if (cI_le hp4 rfl) (Lf_bind (l_X10_pour rfl hp1 hp2 hp3 (pJ_of hp4) hp5 rfl rfl) (fun q87 => (Lf_some (pI_of (pJ_g rfl rfl rfl)) rfl))) (l_X11_in_68 rfl)))))) rfl))))))))))))))
def g_X11_isAmount_17 (s0 : Int) (S : MZ) : Option (Int × MZ) := (if (s0 = 0 ∨ s0 = 1) then (some (s0, S)) else none)
theorem l_X11_isAmount_17 {s0 : Int32} {s0' : Int} (hs0 : tI s0 = s0') {S : Mem} {S' : MZ} (hS : tz S = S') : Lf tI (f_X11_isAmount_17 s0 S) = g_X11_isAmount_17 s0' S' := by
  unfold f_X11_isAmount_17 g_X11_isAmount_17
  exact (Lf_if (c_isB hs0) (Lf_some hs0 hS) rfl)
def g_X11_isAmount_16 (S : MZ) : Option (Int × MZ) := (g_X11_isAmount_17 0 S)
theorem l_X11_isAmount_16 {S : Mem} {S' : MZ} (hS : tz S = S') : Lf tI (f_X11_isAmount_16 S) = g_X11_isAmount_16 S' := by
  unfold f_X11_isAmount_16 g_X11_isAmount_16
  exact (l_X11_isAmount_17 rfl hS)
def g_X11_isAmount (p0 : Int) (S : MZ) : Option (Int × MZ) := (if p0 < 1 then (g_X11_isAmount_16 S) else (if 9999999 < p0 then (g_X11_isAmount_16 S) else (g_X11_isAmount_17 1 S)))
theorem l_X11_isAmount {p0 : Int32} {p0' : Int} (hp0 : tI p0 = p0') {S : Mem} {S' : MZ} (hS : tz S = S') : Lf tI (f_X11_isAmount p0 S) = g_X11_isAmount p0' S' := by
  unfold f_X11_isAmount g_X11_isAmount
  exact (Lf_if (cI_lt hp0 rfl) (l_X11_isAmount_16 hS) (Lf_if (cI_lt rfl hp0) (l_X11_isAmount_16 hS) (l_X11_isAmount_17 rfl hS)))
def g_X11_out_41 (S : MZ) : Option (Int × MZ) := (some ((-1), S))
theorem l_X11_out_41 {S : Mem} {S' : MZ} (hS : tz S = S') : Lf tI (f_X11_out_41 S) = g_X11_out_41 S' := by
  unfold f_X11_out_41 g_X11_out_41
  exact (Lf_some rfl hS)
def g_X11_out (p1 : Int) (p2 : Int) (p3 : Int) (p4 : Int) (S : MZ) : Option (Int × MZ) := ((g_X2_poolAt 78 p2 S).bind fun q5 => (if q5.1 = 0 then (g_X11_out_41 q5.2) else ((g_X2_hasPerson 78 p1 q5.2).bind fun q20 => (if q20.1 = 0 then (g_X11_out_41 q20.2) else ((g_X11_isSide p3 q20.2).bind fun q27 => (if q27.1 = 0 then (g_X11_out_41 q27.2) else ((g_X11_isAmount p4 q27.2).bind fun q35 => (if q35.1 = 0 then (g_X11_out_41 q35.2) else ((g_X10_drain 78 (-1) p2 p3 p4 0 q35.2).bind fun q58 => (if (zL q58.2 4 10) ≤ 0 then (if kd q5.1 = (3, 12) then ((g_X4_thingOn q5.1 p3 q58.2).bind fun q91 => ((g_X2_purseOf 78 p1 q91.1 q91.2).bind fun q94 => (if (zL q58.2 4 12) ≤ q94.1 then ((g_X10_drain 78 p1 p2 p3 p4 1 q94.2).bind fun q120 => (some ((w32 (zL q120.2 4 12)), q120.2))) else (some ((-3), q94.2))))) else none) else (some ((-2), q58.2))))))))))))
theorem l_X11_out {p1 : Int32} {p1' : Int} (hp1 : tI p1 = p1') {p2 : Int32} {p2' : Int} (hp2 : tI p2 = p2') {p3 : Int32} {p3' : Int} (hp3 : tI p3 = p3') {p4 : Int32} {p4' : Int} (hp4 : tI p4 = p4') {S : Mem} {S' : MZ} (hS : tz S = S') : Lf tI (f_X11_out p1 p2 p3 p4 S) = g_X11_out p1' p2' p3' p4' S' := by
  unfold f_X11_out g_X11_out
  exact (Lf_bind (l_X2_poolAt rfl hp2 hS) (fun q5 => (Lf_if (cR_eq rfl rfl) (l_X11_out_41 rfl) (Lf_bind (l_X2_hasPerson rfl hp1 rfl) (fun q20 => (Lf_if (cI_eq rfl rfl) (l_X11_out_41 rfl) (Lf_bind (l_X11_isSide hp3 rfl) (fun q27 => (Lf_if (cI_eq rfl rfl) (l_X11_out_41 rfl) (Lf_bind (l_X11_isAmount hp4 rfl) (fun q35 => (Lf_if (cI_eq rfl rfl) (l_X11_out_41 rfl) (Lf_bind (l_X10_drain rfl rfl hp2 hp3 (pJ_of hp4) rfl rfl) (fun q58 => (Lf_if (cJ_le (pJ_g rfl rfl rfl) rfl) (Lf_if (c_kd rfl) (Lf_bind (l_X4_thingOn rfl hp3 rfl) (fun q91 => (Lf_bind (l_X2_purseOf rfl hp1 rfl rfl) (fun q94 => (Lf_if (cJ_le (pJ_g rfl rfl rfl) (pJ_of rfl)) (Lf_bind (l_X10_drain rfl hp1 hp2 hp3 (pJ_of hp4) rfl rfl) (fun q120 => (Lf_some (pI_of (pJ_g rfl rfl rfl)) rfl))) (Lf_some rfl rfl)))))) rfl) (Lf_some rfl rfl))))))))))))))))
def g_X11_passes_37 (S : MZ) : Option (Int × MZ) := (some ((-1), S))
theorem l_X11_passes_37 {S : Mem} {S' : MZ} (hS : tz S = S') : Lf tI (f_X11_passes_37 S) = g_X11_passes_37 S' := by
  unfold f_X11_passes_37 g_X11_passes_37
  exact (Lf_some rfl hS)
def g_X11_passes (p1 : Int) (S : MZ) : Option (Int × MZ) := (if (zI S 78 0) = 0 then (g_X11_passes_37 S) else (if p1 < 1 then (g_X11_passes_37 S) else (if 9999 < p1 then (g_X11_passes_37 S) else (if (w32 ((zI S 78 4) + p1)) ≤ 9999999 then (some ((zI (uI S 78 4 (w32 ((zI S 78 4) + p1))) 78 4), (uI S 78 4 (w32 ((zI S 78 4) + p1))))) else (g_X11_passes_37 S)))))
theorem l_X11_passes {p1 : Int32} {p1' : Int} (hp1 : tI p1 = p1') {S : Mem} {S' : MZ} (hS : tz S = S') : Lf tI (f_X11_passes p1 S) = g_X11_passes p1' S' := by
  unfold f_X11_passes g_X11_passes
  exact (Lf_if (cI_eq (pI_g hS rfl rfl) rfl) (l_X11_passes_37 hS) (Lf_if (cI_lt hp1 rfl) (l_X11_passes_37 hS) (Lf_if (cI_lt rfl hp1) (l_X11_passes_37 hS) (Lf_if (cI_le (pI_add (pI_g hS rfl rfl) hp1) rfl) (Lf_some (pI_g (pM_I hS rfl rfl (pI_add (pI_g hS rfl rfl) hp1)) rfl rfl) (pM_I hS rfl rfl (pI_add (pI_g hS rfl rfl) hp1))) (l_X11_passes_37 hS)))))
def g_X11_mean_18 (S : MZ) : Option (Int × MZ) := (some ((-1), S))
theorem l_X11_mean_18 {S : Mem} {S' : MZ} (hS : tz S = S') : Lf tI (f_X11_mean_18 S) = g_X11_mean_18 S' := by
  unfold f_X11_mean_18 g_X11_mean_18
  exact (Lf_some rfl hS)
def g_X11_mean_31 (v2 : Int) (v3 : Nat) (v4 : Int) (S : MZ) : Option (Int × MZ) := (if kd v3 = (3, 12) then ((g_X4_firstMark v3 S).bind fun q34 => (if q34.1 ≤ v4 then ((g_X4_sumAt v3 (zI q34.2 78 4) q34.2).bind fun q51 => ((g_X4_sumAt v3 v4 q51.2).bind fun q57 => (if v2 = 0 then none else (some ((w32 (Int.tdiv (w32 (q51.1 - q57.1)) v2)), q57.2))))) else (some ((-2), q34.2)))) else none)
theorem l_X11_mean_31 {v2 : Int32} {v2' : Int} (hv2 : tI v2 = v2') {v3 : Nat} {v3' : Nat} (hv3 : v3 = v3') {v4 : Int32} {v4' : Int} (hv4 : tI v4 = v4') {S : Mem} {S' : MZ} (hS : tz S = S') : Lf tI (f_X11_mean_31 v2 v3 v4 S) = g_X11_mean_31 v2' v3' v4' S' := by
  unfold f_X11_mean_31 g_X11_mean_31
  exact (Lf_if (c_kd hv3) (Lf_bind (l_X4_firstMark hv3 hS) (fun q34 => (Lf_if (cI_le rfl hv4) (Lf_bind (l_X4_sumAt hv3 (pI_g rfl rfl rfl) rfl) (fun q51 => (Lf_bind (l_X4_sumAt hv3 hv4 rfl) (fun q57 => (Lf_if (cI_eq hv2 rfl) rfl (Lf_some (pI_div (pI_sub rfl rfl) hv2) rfl)))))) (Lf_some rfl rfl)))) rfl)
def g_X11_mean (p1 : Int) (p2 : Int) (S : MZ) : Option (Int × MZ) := ((g_X2_poolAt 78 p1 S).bind fun q5 => (if q5.1 = 0 then (g_X11_mean_18 q5.2) else (if 1 ≤ p2 then (g_X11_mean_31 p2 q5.1 (w32 ((zI q5.2 78 4) - p2)) q5.2) else (g_X11_mean_18 q5.2))))
theorem l_X11_mean {p1 : Int32} {p1' : Int} (hp1 : tI p1 = p1') {p2 : Int32} {p2' : Int} (hp2 : tI p2 = p2') {S : Mem} {S' : MZ} (hS : tz S = S') : Lf tI (f_X11_mean p1 p2 S) = g_X11_mean p1' p2' S' := by
  unfold f_X11_mean g_X11_mean
  exact (Lf_bind (l_X2_poolAt rfl hp1 hS) (fun q5 => (Lf_if (cR_eq rfl rfl) (l_X11_mean_18 rfl) (Lf_if (cI_le rfl hp2) (l_X11_mean_31 hp2 rfl (pI_sub (pI_g rfl rfl rfl) hp2) rfl) (l_X11_mean_18 rfl)))))
def g_X11_canAsk_30 (s0 : Int) (S : MZ) : Option (Int × MZ) := (if (s0 = 0 ∨ s0 = 1) then (some (s0, S)) else none)
theorem l_X11_canAsk_30 {s0 : Int32} {s0' : Int} (hs0 : tI s0 = s0') {S : Mem} {S' : MZ} (hS : tz S = S') : Lf tI (f_X11_canAsk_30 s0 S) = g_X11_canAsk_30 s0' S' := by
  unfold f_X11_canAsk_30 g_X11_canAsk_30
  exact (Lf_if (c_isB hs0) (Lf_some hs0 hS) rfl)
def g_X11_canAsk_29 (S : MZ) : Option (Int × MZ) := (g_X11_canAsk_30 0 S)
theorem l_X11_canAsk_29 {S : Mem} {S' : MZ} (hS : tz S = S') : Lf tI (f_X11_canAsk_29 S) = g_X11_canAsk_29 S' := by
  unfold f_X11_canAsk_29 g_X11_canAsk_29
  exact (l_X11_canAsk_30 rfl hS)
def g_X11_canAsk (p1 : Int) (p2 : Int) (p3 : Int) (S : MZ) : Option (Int × MZ) := ((g_X2_poolAt 78 p1 S).bind fun q5 => (if q5.1 = 0 then (g_X11_canAsk_29 q5.2) else ((g_X11_isSide p2 q5.2).bind fun q12 => (if q12.1 = 0 then (g_X11_canAsk_29 q12.2) else ((g_X11_isAmount p3 q12.2).bind fun q19 => (if q19.1 = 0 then (g_X11_canAsk_29 q19.2) else (g_X11_canAsk_30 1 q19.2)))))))
theorem l_X11_canAsk {p1 : Int32} {p1' : Int} (hp1 : tI p1 = p1') {p2 : Int32} {p2' : Int} (hp2 : tI p2 = p2') {p3 : Int32} {p3' : Int} (hp3 : tI p3 = p3') {S : Mem} {S' : MZ} (hS : tz S = S') : Lf tI (f_X11_canAsk p1 p2 p3 S) = g_X11_canAsk p1' p2' p3' S' := by
  unfold f_X11_canAsk g_X11_canAsk
  exact (Lf_bind (l_X2_poolAt rfl hp1 hS) (fun q5 => (Lf_if (cR_eq rfl rfl) (l_X11_canAsk_29 rfl) (Lf_bind (l_X11_isSide hp2 rfl) (fun q12 => (Lf_if (cI_eq rfl rfl) (l_X11_canAsk_29 rfl) (Lf_bind (l_X11_isAmount hp3 rfl) (fun q19 => (Lf_if (cI_eq rfl rfl) (l_X11_canAsk_29 rfl) (l_X11_canAsk_30 rfl rfl))))))))))
def g_X11_quoteIn_18 (S : MZ) : Option (Int × MZ) := (some ((-1), S))
theorem l_X11_quoteIn_18 {S : Mem} {S' : MZ} (hS : tz S = S') : Lf tI (f_X11_quoteIn_18 S) = g_X11_quoteIn_18 S' := by
  unfold f_X11_quoteIn_18 g_X11_quoteIn_18
  exact (Lf_some rfl hS)
def g_X11_quoteIn (p1 : Int) (p2 : Int) (p3 : Int) (p4 : Int) (p5 : Int) (S : MZ) : Option (Int × MZ) := ((g_X11_canAsk p1 p2 p3 S).bind fun q4 => (if q4.1 = 0 then (g_X11_quoteIn_18 q4.2) else ((g_X11_isTick p4 q4.2).bind fun q12 => (if q12.1 = 0 then (g_X11_quoteIn_18 q12.2) else ((g_X10_pour 78 (-1) p1 p2 p3 p4 0 q12.2).bind fun q36 => (if p5 = 0 then (some ((w32 (zL q36.2 4 11)), q36.2)) else (if p5 = 1 then (some ((w32 (zL q36.2 4 10)), q36.2)) else (if p5 = 2 then (some ((w32 (zL q36.2 4 13)), q36.2)) else (if p5 = 3 then (some ((zI q36.2 4 8), q36.2)) else (if p5 = 4 then (some ((zI q36.2 4 9), q36.2)) else (some ((-1), q36.2))))))))))))
theorem l_X11_quoteIn {p1 : Int32} {p1' : Int} (hp1 : tI p1 = p1') {p2 : Int32} {p2' : Int} (hp2 : tI p2 = p2') {p3 : Int32} {p3' : Int} (hp3 : tI p3 = p3') {p4 : Int32} {p4' : Int} (hp4 : tI p4 = p4') {p5 : Int32} {p5' : Int} (hp5 : tI p5 = p5') {S : Mem} {S' : MZ} (hS : tz S = S') : Lf tI (f_X11_quoteIn p1 p2 p3 p4 p5 S) = g_X11_quoteIn p1' p2' p3' p4' p5' S' := by
  unfold f_X11_quoteIn g_X11_quoteIn
  exact (Lf_bind (l_X11_canAsk hp1 hp2 hp3 hS) (fun q4 => (Lf_if (cI_eq rfl rfl) (l_X11_quoteIn_18 rfl) (Lf_bind (l_X11_isTick hp4 rfl) (fun q12 => (Lf_if (cI_eq rfl rfl) (l_X11_quoteIn_18 rfl) (Lf_bind (l_X10_pour rfl rfl hp1 hp2 (pJ_of hp3) hp4 rfl rfl) (fun q36 => (Lf_if (cI_eq hp5 rfl) (Lf_some (pI_of (pJ_g rfl rfl rfl)) rfl) (Lf_if (cI_eq hp5 rfl) (Lf_some (pI_of (pJ_g rfl rfl rfl)) rfl) (Lf_if (cI_eq hp5 rfl) (Lf_some (pI_of (pJ_g rfl rfl rfl)) rfl) (Lf_if (cI_eq hp5 rfl) (Lf_some (pI_g rfl rfl rfl) rfl) (Lf_if (cI_eq hp5 rfl) (Lf_some (pI_g rfl rfl rfl) rfl) (Lf_some rfl rfl))))))))))))))
def g_X11_quoteOut_21 (S : MZ) : Option (Int × MZ) := (some ((-1), S))
theorem l_X11_quoteOut_21 {S : Mem} {S' : MZ} (hS : tz S = S') : Lf tI (f_X11_quoteOut_21 S) = g_X11_quoteOut_21 S' := by
  unfold f_X11_quoteOut_21 g_X11_quoteOut_21
  exact (Lf_some rfl hS)
def g_X11_quoteOut (p1 : Int) (p2 : Int) (p3 : Int) (p4 : Int) (S : MZ) : Option (Int × MZ) := ((g_X11_canAsk p1 p2 p3 S).bind fun q4 => (if q4.1 = 0 then (g_X11_quoteOut_21 q4.2) else (if p4 < 0 then (g_X11_quoteOut_21 q4.2) else (if p4 ≤ 3 then ((g_X10_drain 78 (-1) p1 p2 p3 0 q4.2).bind fun q37 => (if (zL q37.2 4 10) ≤ 0 then (if p4 = 0 then (some ((w32 (zL q37.2 4 12)), q37.2)) else (if p4 = 1 then (some ((w32 (zL q37.2 4 13)), q37.2)) else (if p4 = 2 then (some ((zI q37.2 4 8), q37.2)) else (some ((zI q37.2 4 9), q37.2))))) else (some ((-2), q37.2)))) else (g_X11_quoteOut_21 q4.2)))))
theorem l_X11_quoteOut {p1 : Int32} {p1' : Int} (hp1 : tI p1 = p1') {p2 : Int32} {p2' : Int} (hp2 : tI p2 = p2') {p3 : Int32} {p3' : Int} (hp3 : tI p3 = p3') {p4 : Int32} {p4' : Int} (hp4 : tI p4 = p4') {S : Mem} {S' : MZ} (hS : tz S = S') : Lf tI (f_X11_quoteOut p1 p2 p3 p4 S) = g_X11_quoteOut p1' p2' p3' p4' S' := by
  unfold f_X11_quoteOut g_X11_quoteOut
  exact (Lf_bind (l_X11_canAsk hp1 hp2 hp3 hS) (fun q4 => (Lf_if (cI_eq rfl rfl) (l_X11_quoteOut_21 rfl) (Lf_if (cI_lt hp4 rfl) (l_X11_quoteOut_21 rfl) (Lf_if (cI_le hp4 rfl) (Lf_bind (l_X10_drain rfl rfl hp1 hp2 (pJ_of hp3) rfl rfl) (fun q37 => (Lf_if (cJ_le (pJ_g rfl rfl rfl) rfl) (Lf_if (cI_eq hp4 rfl) (Lf_some (pI_of (pJ_g rfl rfl rfl)) rfl) (Lf_if (cI_eq hp4 rfl) (Lf_some (pI_of (pJ_g rfl rfl rfl)) rfl) (Lf_if (cI_eq hp4 rfl) (Lf_some (pI_g rfl rfl rfl) rfl) (Lf_some (pI_g rfl rfl rfl) rfl)))) (Lf_some rfl rfl)))) (l_X11_quoteOut_21 rfl))))))
def g_X11_round (p1 : Int) (p2 : Int) (p3 : Int) (S : MZ) : Option (Int × MZ) := ((g_X11_canAsk p1 p2 p3 S).bind fun q4 => (if q4.1 = 0 then (some ((-1), q4.2)) else ((g_X2_copyFrom 143 78 q4.2).bind fun q20 => ((g_X11_lastTick p2 q20.2).bind fun q37 => ((g_X10_pour 143 (-1) p1 p2 p3 q37.1 1 q37.2).bind fun q41 => (if 1 ≤ (zL q41.2 4 11) then ((g_X11_lastTick (w32 (1 - p2)) q41.2).bind fun q81 => ((g_X10_pour 143 (-1) p1 (w32 (1 - p2)) (zL q41.2 4 11) q81.1 1 q81.2).bind fun q85 => (some ((w32 (zL q85.2 4 11)), q85.2)))) else (some (0, q41.2))))))))
theorem l_X11_round {p1 : Int32} {p1' : Int} (hp1 : tI p1 = p1') {p2 : Int32} {p2' : Int} (hp2 : tI p2 = p2') {p3 : Int32} {p3' : Int} (hp3 : tI p3 = p3') {S : Mem} {S' : MZ} (hS : tz S = S') : Lf tI (f_X11_round p1 p2 p3 S) = g_X11_round p1' p2' p3' S' := by
  unfold f_X11_round g_X11_round
  exact (Lf_bind (l_X11_canAsk hp1 hp2 hp3 hS) (fun q4 => (Lf_if (cI_eq rfl rfl) (Lf_some rfl rfl) (Lf_bind (l_X2_copyFrom rfl rfl rfl) (fun q20 => (Lf_bind (l_X11_lastTick hp2 rfl) (fun q37 => (Lf_bind (l_X10_pour rfl rfl hp1 hp2 (pJ_of hp3) rfl rfl rfl) (fun q41 => (Lf_if (cJ_le rfl (pJ_g rfl rfl rfl)) (Lf_bind (l_X11_lastTick (pI_sub rfl hp2) rfl) (fun q81 => (Lf_bind (l_X10_pour rfl rfl hp1 (pI_sub rfl hp2) (pJ_g rfl rfl rfl) rfl rfl rfl) (fun q85 => (Lf_some (pI_of (pJ_g rfl rfl rfl)) rfl))))) (Lf_some rfl rfl)))))))))))
def g_X11_comesTo_62 (s0 : Int) (S : MZ) : Option (Int × MZ) := (if (s0 = 0 ∨ s0 = 1) then (some (s0, S)) else none)
theorem l_X11_comesTo_62 {s0 : Int32} {s0' : Int} (hs0 : tI s0 = s0') {S : Mem} {S' : MZ} (hS : tz S = S') : Lf tI (f_X11_comesTo_62 s0 S) = g_X11_comesTo_62 s0' S' := by
  unfold f_X11_comesTo_62 g_X11_comesTo_62
  exact (Lf_if (c_isB hs0) (Lf_some hs0 hS) rfl)
def g_X11_comesTo (p1 : Int) (p2 : Int) (p3 : Int) (p4 : Int) (S : MZ) : Option (Int × MZ) := ((g_X11_lastTick p2 S).bind fun q14 => ((g_X10_pour 78 (-1) p1 p2 p3 q14.1 0 q14.2).bind fun q18 => (if p2 = 0 then (if p4 < (zI q18.2 4 8) then (g_X11_comesTo_62 0 q18.2) else (g_X11_comesTo_62 1 q18.2)) else (if (zI q18.2 4 8) < p4 then (g_X11_comesTo_62 0 q18.2) else (g_X11_comesTo_62 1 q18.2)))))
theorem l_X11_comesTo {p1 : Int32} {p1' : Int} (hp1 : tI p1 = p1') {p2 : Int32} {p2' : Int} (hp2 : tI p2 = p2') {p3 : Int32} {p3' : Int} (hp3 : tI p3 = p3') {p4 : Int32} {p4' : Int} (hp4 : tI p4 = p4') {S : Mem} {S' : MZ} (hS : tz S = S') : Lf tI (f_X11_comesTo p1 p2 p3 p4 S) = g_X11_comesTo p1' p2' p3' p4' S' := by
  unfold f_X11_comesTo g_X11_comesTo
  exact (Lf_bind (l_X11_lastTick hp2 hS) (fun q14 => (Lf_bind (l_X10_pour rfl rfl hp1 hp2 (pJ_of hp3) rfl rfl rfl) (fun q18 => (Lf_if (cI_eq hp2 rfl) (Lf_if (cI_lt hp4 (pI_g rfl rfl rfl)) (l_X11_comesTo_62 rfl rfl) (l_X11_comesTo_62 rfl rfl)) (Lf_if (cI_lt (pI_g rfl rfl rfl) hp4) (l_X11_comesTo_62 rfl rfl) (l_X11_comesTo_62 rfl rfl)))))))
def g_X11_least_25 (S : MZ) : Option (Int × MZ) := (some ((-1), S))
theorem l_X11_least_25 {S : Mem} {S' : MZ} (hS : tz S = S') : Lf tI (f_X11_least_25 S) = g_X11_least_25 S' := by
  unfold f_X11_least_25 g_X11_least_25
  exact (Lf_some rfl hS)
def g_X11_least_102 (k54 : Int → Int → Int → Int → Int → Int → MZ → Option (Int × MZ)) (v1 : Int) (v2 : Int) (v3 : Int) (v4 : Int) (v5 : Int) (v6 : Int) (S : MZ) : Option (Int × MZ) := (k54 v1 v2 v3 v4 v5 (w32 (v6 + 1)) S)
theorem l_X11_least_102 {k54 : Int32 → Int32 → Int32 → Int32 → Int32 → Int32 → Mem → Option (Int32 × Mem)} {k54' : Int → Int → Int → Int → Int → Int → MZ → Option (Int × MZ)} (hk54 : ∀ {x0 : Int32} {x1 : Int32} {x2 : Int32} {x3 : Int32} {x4 : Int32} {x5 : Int32} {x6 : Mem} {y0 : Int} {y1 : Int} {y2 : Int} {y3 : Int} {y4 : Int} {y5 : Int} {y6 : MZ}, tI x0 = y0 → tI x1 = y1 → tI x2 = y2 → tI x3 = y3 → tI x4 = y4 → tI x5 = y5 → tz x6 = y6 → Lf tI (k54 x0 x1 x2 x3 x4 x5 x6) = k54' y0 y1 y2 y3 y4 y5 y6) {v1 : Int32} {v1' : Int} (hv1 : tI v1 = v1') {v2 : Int32} {v2' : Int} (hv2 : tI v2 = v2') {v3 : Int32} {v3' : Int} (hv3 : tI v3 = v3') {v4 : Int32} {v4' : Int} (hv4 : tI v4 = v4') {v5 : Int32} {v5' : Int} (hv5 : tI v5 = v5') {v6 : Int32} {v6' : Int} (hv6 : tI v6 = v6') {S : Mem} {S' : MZ} (hS : tz S = S') : Lf tI (f_X11_least_102 k54 v1 v2 v3 v4 v5 v6 S) = g_X11_least_102 k54' v1' v2' v3' v4' v5' v6' S' := by
  unfold f_X11_least_102 g_X11_least_102
  exact (hk54 hv1 hv2 hv3 hv4 hv5 (pI_add hv6 rfl) hS)
def g_X11_least_77 (k54 : Int → Int → Int → Int → Int → Int → MZ → Option (Int × MZ)) (v1 : Int) (v2 : Int) (v3 : Int) (v4 : Int) (v5 : Int) (v6 : Int) (v7 : Int) (S : MZ) : Option (Int × MZ) := ((g_X11_comesTo v1 v2 v7 v3 S).bind fun q83 => (if q83.1 = 0 then (g_X11_least_102 k54 v1 v2 v3 (w32 (v7 + 1)) v5 v6 q83.2) else (g_X11_least_102 k54 v1 v2 v3 v4 v7 v6 q83.2)))
theorem l_X11_least_77 {k54 : Int32 → Int32 → Int32 → Int32 → Int32 → Int32 → Mem → Option (Int32 × Mem)} {k54' : Int → Int → Int → Int → Int → Int → MZ → Option (Int × MZ)} (hk54 : ∀ {x0 : Int32} {x1 : Int32} {x2 : Int32} {x3 : Int32} {x4 : Int32} {x5 : Int32} {x6 : Mem} {y0 : Int} {y1 : Int} {y2 : Int} {y3 : Int} {y4 : Int} {y5 : Int} {y6 : MZ}, tI x0 = y0 → tI x1 = y1 → tI x2 = y2 → tI x3 = y3 → tI x4 = y4 → tI x5 = y5 → tz x6 = y6 → Lf tI (k54 x0 x1 x2 x3 x4 x5 x6) = k54' y0 y1 y2 y3 y4 y5 y6) {v1 : Int32} {v1' : Int} (hv1 : tI v1 = v1') {v2 : Int32} {v2' : Int} (hv2 : tI v2 = v2') {v3 : Int32} {v3' : Int} (hv3 : tI v3 = v3') {v4 : Int32} {v4' : Int} (hv4 : tI v4 = v4') {v5 : Int32} {v5' : Int} (hv5 : tI v5 = v5') {v6 : Int32} {v6' : Int} (hv6 : tI v6 = v6') {v7 : Int32} {v7' : Int} (hv7 : tI v7 = v7') {S : Mem} {S' : MZ} (hS : tz S = S') : Lf tI (f_X11_least_77 k54 v1 v2 v3 v4 v5 v6 v7 S) = g_X11_least_77 k54' v1' v2' v3' v4' v5' v6' v7' S' := by
  unfold f_X11_least_77 g_X11_least_77
  exact (Lf_bind (l_X11_comesTo hv1 hv2 hv7 hv3 hS) (fun q83 => (Lf_if (cI_eq rfl rfl) (l_X11_least_102 hk54 hv1 hv2 hv3 (pI_add hv7 rfl) hv5 hv6 rfl) (l_X11_least_102 hk54 hv1 hv2 hv3 hv4 hv7 hv6 rfl))))
def g_X11_least_108 (v4 : Int) (S : MZ) : Option (Int × MZ) := (some (v4, S))
theorem l_X11_least_108 {v4 : Int32} {v4' : Int} (hv4 : tI v4 = v4') {S : Mem} {S' : MZ} (hS : tz S = S') : Lf tI (f_X11_least_108 v4 S) = g_X11_least_108 v4' S' := by
  unfold f_X11_least_108 g_X11_least_108
  exact (Lf_some hv4 hS)
def g_X11_least_54B (k54 : Int → Int → Int → Int → Int → Int → MZ → Option (Int × MZ)) (v1 : Int) (v2 : Int) (v3 : Int) (v4 : Int) (v5 : Int) (v6 : Int) (S : MZ) : Option (Int × MZ) := (if 64 ≤ v6 then (g_X11_least_108 v4 S) else (if v5 ≤ v4 then (g_X11_least_108 v4 S) else (g_X11_least_77 k54 v1 v2 v3 v4 v5 v6 (w32 (Int.tdiv (w32 (v4 + v5)) 2)) S)))
theorem l_X11_least_54B {k54 : Int32 → Int32 → Int32 → Int32 → Int32 → Int32 → Mem → Option (Int32 × Mem)} {k54' : Int → Int → Int → Int → Int → Int → MZ → Option (Int × MZ)} (hk54 : ∀ {x0 : Int32} {x1 : Int32} {x2 : Int32} {x3 : Int32} {x4 : Int32} {x5 : Int32} {x6 : Mem} {y0 : Int} {y1 : Int} {y2 : Int} {y3 : Int} {y4 : Int} {y5 : Int} {y6 : MZ}, tI x0 = y0 → tI x1 = y1 → tI x2 = y2 → tI x3 = y3 → tI x4 = y4 → tI x5 = y5 → tz x6 = y6 → Lf tI (k54 x0 x1 x2 x3 x4 x5 x6) = k54' y0 y1 y2 y3 y4 y5 y6) {v1 : Int32} {v1' : Int} (hv1 : tI v1 = v1') {v2 : Int32} {v2' : Int} (hv2 : tI v2 = v2') {v3 : Int32} {v3' : Int} (hv3 : tI v3 = v3') {v4 : Int32} {v4' : Int} (hv4 : tI v4 = v4') {v5 : Int32} {v5' : Int} (hv5 : tI v5 = v5') {v6 : Int32} {v6' : Int} (hv6 : tI v6 = v6') {S : Mem} {S' : MZ} (hS : tz S = S') : Lf tI (f_X11_least_54B k54 v1 v2 v3 v4 v5 v6 S) = g_X11_least_54B k54' v1' v2' v3' v4' v5' v6' S' := by
  unfold f_X11_least_54B g_X11_least_54B
  exact (Lf_if (cI_le rfl hv6) (l_X11_least_108 hv4 hS) (Lf_if (cI_le hv5 hv4) (l_X11_least_108 hv4 hS) (l_X11_least_77 hk54 hv1 hv2 hv3 hv4 hv5 hv6 (pI_div (pI_add hv4 hv5) rfl) hS)))
def g_X11_least_54 : Nat → Int → Int → Int → Int → Int → Int → MZ → Option (Int × MZ)
  | 0 => fun _ _ _ _ _ _ _ => none
  | n + 1 => g_X11_least_54B (g_X11_least_54 n)
theorem l_X11_least_54 : ∀ (n : Nat) {x0 : Int32} {x1 : Int32} {x2 : Int32} {x3 : Int32} {x4 : Int32} {x5 : Int32} {x6 : Mem} {y0 : Int} {y1 : Int} {y2 : Int} {y3 : Int} {y4 : Int} {y5 : Int} {y6 : MZ}, tI x0 = y0 → tI x1 = y1 → tI x2 = y2 → tI x3 = y3 → tI x4 = y4 → tI x5 = y5 → tz x6 = y6 → Lf tI (f_X11_least_54 n x0 x1 x2 x3 x4 x5 x6) = g_X11_least_54 n y0 y1 y2 y3 y4 y5 y6
  | 0, _, _, _, _, _, _, _, _, _, _, _, _, _, _, _, _, _, _, _, _, _ => rfl
  | n + 1, _, _, _, _, _, _, _, _, _, _, _, _, _, _, e0, e1, e2, e3, e4, e5, e6 => l_X11_least_54B (fun de0 de1 de2 de3 de4 de5 de6 => l_X11_least_54 n de0 de1 de2 de3 de4 de5 de6) e0 e1 e2 e3 e4 e5 e6
def g_X11_least (p1 : Int) (p2 : Int) (p3 : Int) (S : MZ) : Option (Int × MZ) := ((g_X2_poolAt 78 p1 S).bind fun q5 => (if q5.1 = 0 then (g_X11_least_25 q5.2) else ((g_X11_isSide p2 q5.2).bind fun q12 => (if q12.1 = 0 then (g_X11_least_25 q12.2) else ((g_X11_isZone p3 q12.2).bind fun q19 => (if q19.1 = 0 then (g_X11_least_25 q19.2) else ((g_X11_comesTo p1 p2 9999999 p3 q19.2).bind fun q34 => (if q34.1 = 0 then (some ((-2), q34.2)) else (g_X11_least_54 100000 p1 p2 p3 1 9999999 0 q34.2)))))))))
theorem l_X11_least {p1 : Int32} {p1' : Int} (hp1 : tI p1 = p1') {p2 : Int32} {p2' : Int} (hp2 : tI p2 = p2') {p3 : Int32} {p3' : Int} (hp3 : tI p3 = p3') {S : Mem} {S' : MZ} (hS : tz S = S') : Lf tI (f_X11_least p1 p2 p3 S) = g_X11_least p1' p2' p3' S' := by
  unfold f_X11_least g_X11_least
  exact (Lf_bind (l_X2_poolAt rfl hp1 hS) (fun q5 => (Lf_if (cR_eq rfl rfl) (l_X11_least_25 rfl) (Lf_bind (l_X11_isSide hp2 rfl) (fun q12 => (Lf_if (cI_eq rfl rfl) (l_X11_least_25 rfl) (Lf_bind (l_X11_isZone hp3 rfl) (fun q19 => (Lf_if (cI_eq rfl rfl) (l_X11_least_25 rfl) (Lf_bind (l_X11_comesTo hp1 hp2 rfl hp3 rfl) (fun q34 => (Lf_if (cI_eq rfl rfl) (Lf_some rfl rfl) (l_X11_least_54 100000 hp1 hp2 hp3 rfl rfl rfl rfl)))))))))))))
def g_X11_canWander_39 (s0 : Int) (S : MZ) : Option (Int × MZ) := (if (s0 = 0 ∨ s0 = 1) then (some (s0, S)) else none)
theorem l_X11_canWander_39 {s0 : Int32} {s0' : Int} (hs0 : tI s0 = s0') {S : Mem} {S' : MZ} (hS : tz S = S') : Lf tI (f_X11_canWander_39 s0 S) = g_X11_canWander_39 s0' S' := by
  unfold f_X11_canWander_39 g_X11_canWander_39
  exact (Lf_if (c_isB hs0) (Lf_some hs0 hS) rfl)
def g_X11_canWander_38 (S : MZ) : Option (Int × MZ) := (g_X11_canWander_39 0 S)
theorem l_X11_canWander_38 {S : Mem} {S' : MZ} (hS : tz S = S') : Lf tI (f_X11_canWander_38 S) = g_X11_canWander_38 S' := by
  unfold f_X11_canWander_38 g_X11_canWander_38
  exact (l_X11_canWander_39 rfl hS)
def g_X11_canWander (p1 : Int) (p2 : Int) (p3 : Int) (S : MZ) : Option (Int × MZ) := ((g_X2_hasThing 78 p1 S).bind fun q5 => (if q5.1 = 0 then (g_X11_canWander_38 q5.2) else ((g_X2_hasThing 78 p2 q5.2).bind fun q16 => (if q16.1 = 0 then (g_X11_canWander_38 q16.2) else (if p1 = p2 then (g_X11_canWander_38 q16.2) else ((g_X11_isAmount p3 q16.2).bind fun q28 => (if q28.1 = 0 then (g_X11_canWander_38 q28.2) else (g_X11_canWander_39 1 q28.2))))))))
theorem l_X11_canWander {p1 : Int32} {p1' : Int} (hp1 : tI p1 = p1') {p2 : Int32} {p2' : Int} (hp2 : tI p2 = p2') {p3 : Int32} {p3' : Int} (hp3 : tI p3 = p3') {S : Mem} {S' : MZ} (hS : tz S = S') : Lf tI (f_X11_canWander p1 p2 p3 S) = g_X11_canWander p1' p2' p3' S' := by
  unfold f_X11_canWander g_X11_canWander
  exact (Lf_bind (l_X2_hasThing rfl hp1 hS) (fun q5 => (Lf_if (cI_eq rfl rfl) (l_X11_canWander_38 rfl) (Lf_bind (l_X2_hasThing rfl hp2 rfl) (fun q16 => (Lf_if (cI_eq rfl rfl) (l_X11_canWander_38 rfl) (Lf_if (cI_eq hp1 hp2) (l_X11_canWander_38 rfl) (Lf_bind (l_X11_isAmount hp3 rfl) (fun q28 => (Lf_if (cI_eq rfl rfl) (l_X11_canWander_38 rfl) (l_X11_canWander_39 rfl rfl)))))))))))
def g_X11_route_21 (S : MZ) : Option (Int × MZ) := (some ((-1), S))
theorem l_X11_route_21 {S : Mem} {S' : MZ} (hS : tz S = S') : Lf tI (f_X11_route_21 S) = g_X11_route_21 S' := by
  unfold f_X11_route_21 g_X11_route_21
  exact (Lf_some rfl hS)
def g_X11_route (p1 : Int) (p2 : Int) (p3 : Int) (p4 : Int) (S : MZ) : Option (Int × MZ) := ((g_X11_canWander p1 p2 p3 S).bind fun q4 => (if q4.1 = 0 then (g_X11_route_21 q4.2) else (if p4 < 0 then (g_X11_route_21 q4.2) else (if p4 ≤ 4 then ((g_X1_forget (w32 (-p3)) q4.2).bind fun q29 => ((g_X1_search 78 p1 p2 p3 q29.2).bind fun q43 => (if (zI q43.2 14 2) = 0 then (some ((-2), q43.2)) else (if p4 = 0 then (some ((w32 (w64 ((zL q43.2 14 0) + p3))), q43.2)) else (if p4 = 1 then (some ((zI q43.2 14 2), q43.2)) else ((g_X1_bestPool (w32 (p4 - 2)) q43.2).bind fun q116 => (some (q116.1, q116.2)))))))) else (g_X11_route_21 q4.2)))))
theorem l_X11_route {p1 : Int32} {p1' : Int} (hp1 : tI p1 = p1') {p2 : Int32} {p2' : Int} (hp2 : tI p2 = p2') {p3 : Int32} {p3' : Int} (hp3 : tI p3 = p3') {p4 : Int32} {p4' : Int} (hp4 : tI p4 = p4') {S : Mem} {S' : MZ} (hS : tz S = S') : Lf tI (f_X11_route p1 p2 p3 p4 S) = g_X11_route p1' p2' p3' p4' S' := by
  unfold f_X11_route g_X11_route
  exact (Lf_bind (l_X11_canWander hp1 hp2 hp3 hS) (fun q4 => (Lf_if (cI_eq rfl rfl) (l_X11_route_21 rfl) (Lf_if (cI_lt hp4 rfl) (l_X11_route_21 rfl) (Lf_if (cI_le hp4 rfl) (Lf_bind (l_X1_forget (pI_neg hp3) rfl) (fun q29 => (Lf_bind (l_X1_search rfl hp1 hp2 hp3 rfl) (fun q43 => (Lf_if (cI_eq (pI_g rfl rfl rfl) rfl) (Lf_some rfl rfl) (Lf_if (cI_eq hp4 rfl) (Lf_some (pI_of (pJ_add (pJ_g rfl rfl rfl) (pJ_of hp3))) rfl) (Lf_if (cI_eq hp4 rfl) (Lf_some (pI_g rfl rfl rfl) rfl) (Lf_bind (l_X1_bestPool (pI_sub hp4 rfl) rfl) (fun q116 => (Lf_some rfl rfl)))))))))) (l_X11_route_21 rfl))))))
