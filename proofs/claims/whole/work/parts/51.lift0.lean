/-! every method once more, over Int (0) -/
def g_X0_rootAt_36 (s0 : Int) (S : MZ) : Option (Int × MZ) := (some (s0, S))
theorem l_X0_rootAt_36 {s0 : Int32} {s0' : Int} (hs0 : tI s0 = s0') {S : Mem} {S' : MZ} (hS : tz S = S') : Lf tI (f_X0_rootAt_36 s0 S) = g_X0_rootAt_36 s0' S' := by
  unfold f_X0_rootAt_36 g_X0_rootAt_36
  exact (Lf_some hs0 hS)
def g_X0_rootAt_9 (s0 : Int) (S : MZ) : Option (Int × MZ) := (if 41 ≤ s0 then (if (0 ≤ (w32 (41 - 1)) ∧ (w32 (41 - 1)) < ((41 : Nat) : Int)) then (g_X0_rootAt_36 (zroots ((w32 (41 - 1))).toNat) S) else none) else (if (0 ≤ s0 ∧ s0 < ((41 : Nat) : Int)) then (g_X0_rootAt_36 (zroots (s0).toNat) S) else none))
theorem l_X0_rootAt_9 {s0 : Int32} {s0' : Int} (hs0 : tI s0 = s0') {S : Mem} {S' : MZ} (hS : tz S = S') : Lf tI (f_X0_rootAt_9 s0 S) = g_X0_rootAt_9 s0' S' := by
  unfold f_X0_rootAt_9 g_X0_rootAt_9
  exact (Lf_if (cI_le rfl hs0) (Lf_if (c_inb (pI_sub rfl rfl) rfl) (l_X0_rootAt_36 (pI_roots (pN_of (pI_sub rfl rfl))) hS) rfl) (Lf_if (c_inb hs0 rfl) (l_X0_rootAt_36 (pI_roots (pN_of hs0)) hS) rfl))
def g_X0_rootAt (p0 : Int) (S : MZ) : Option (Int × MZ) := (if 0 ≤ p0 then (g_X0_rootAt_9 p0 S) else (g_X0_rootAt_9 0 S))
theorem l_X0_rootAt {p0 : Int32} {p0' : Int} (hp0 : tI p0 = p0') {S : Mem} {S' : MZ} (hS : tz S = S') : Lf tI (f_X0_rootAt p0 S) = g_X0_rootAt p0' S' := by
  unfold f_X0_rootAt g_X0_rootAt
  exact (Lf_if (cI_le rfl hp0) (l_X0_rootAt_9 hp0 hS) (l_X0_rootAt_9 rfl hS))
def g_X0_zoneOf_26 (v1 : Int) (S : MZ) : Option (Int × MZ) := (some (v1, S))
theorem l_X0_zoneOf_26 {v1 : Int32} {v1' : Int} (hv1 : tI v1 = v1') {S : Mem} {S' : MZ} (hS : tz S = S') : Lf tI (f_X0_zoneOf_26 v1 S) = g_X0_zoneOf_26 v1' S' := by
  unfold f_X0_zoneOf_26 g_X0_zoneOf_26
  exact (Lf_some hv1 hS)
def g_X0_zoneOf_2B (k2 : Int → Int → MZ → Option (Int × MZ)) (v0 : Int) (v1 : Int) (S : MZ) : Option (Int × MZ) := (if 40 ≤ (w32 (v1 + 1)) then (g_X0_zoneOf_26 v1 S) else ((g_X0_rootAt (w32 (v1 + 1)) S).bind fun q13 => (if v0 < q13.1 then (g_X0_zoneOf_26 v1 q13.2) else (k2 v0 (w32 (v1 + 1)) q13.2))))
theorem l_X0_zoneOf_2B {k2 : Int32 → Int32 → Mem → Option (Int32 × Mem)} {k2' : Int → Int → MZ → Option (Int × MZ)} (hk2 : ∀ {x0 : Int32} {x1 : Int32} {x2 : Mem} {y0 : Int} {y1 : Int} {y2 : MZ}, tI x0 = y0 → tI x1 = y1 → tz x2 = y2 → Lf tI (k2 x0 x1 x2) = k2' y0 y1 y2) {v0 : Int32} {v0' : Int} (hv0 : tI v0 = v0') {v1 : Int32} {v1' : Int} (hv1 : tI v1 = v1') {S : Mem} {S' : MZ} (hS : tz S = S') : Lf tI (f_X0_zoneOf_2B k2 v0 v1 S) = g_X0_zoneOf_2B k2' v0' v1' S' := by
  unfold f_X0_zoneOf_2B g_X0_zoneOf_2B
  exact (Lf_if (cI_le rfl (pI_add hv1 rfl)) (l_X0_zoneOf_26 hv1 hS) (Lf_bind (l_X0_rootAt (pI_add hv1 rfl) hS) (fun q13 => (Lf_if (cI_lt hv0 rfl) (l_X0_zoneOf_26 hv1 rfl) (hk2 hv0 (pI_add hv1 rfl) rfl)))))
def g_X0_zoneOf_2 : Nat → Int → Int → MZ → Option (Int × MZ)
  | 0 => fun _ _ _ => none
  | n + 1 => g_X0_zoneOf_2B (g_X0_zoneOf_2 n)
theorem l_X0_zoneOf_2 : ∀ (n : Nat) {x0 : Int32} {x1 : Int32} {x2 : Mem} {y0 : Int} {y1 : Int} {y2 : MZ}, tI x0 = y0 → tI x1 = y1 → tz x2 = y2 → Lf tI (f_X0_zoneOf_2 n x0 x1 x2) = g_X0_zoneOf_2 n y0 y1 y2
  | 0, _, _, _, _, _, _, _, _, _ => rfl
  | n + 1, _, _, _, _, _, _, e0, e1, e2 => l_X0_zoneOf_2B (fun de0 de1 de2 => l_X0_zoneOf_2 n de0 de1 de2) e0 e1 e2
def g_X0_zoneOf (p0 : Int) (S : MZ) : Option (Int × MZ) := (g_X0_zoneOf_2 100000 p0 0 S)
theorem l_X0_zoneOf {p0 : Int32} {p0' : Int} (hp0 : tI p0 = p0') {S : Mem} {S' : MZ} (hS : tz S = S') : Lf tI (f_X0_zoneOf p0 S) = g_X0_zoneOf p0' S' := by
  unfold f_X0_zoneOf g_X0_zoneOf
  exact (l_X0_zoneOf_2 100000 hp0 rfl hS)
def g_X0_startRoot_90 (k39 : Int → Int → Int → Int → MZ → Option (Int × MZ)) (v2 : Int) (v4 : Int) (v6 : Int) (v8 : Int) (S : MZ) : Option (Int × MZ) := (k39 v2 v4 v6 (w32 (v8 + 1)) S)
theorem l_X0_startRoot_90 {k39 : Int64 → Int64 → Int64 → Int32 → Mem → Option (Int32 × Mem)} {k39' : Int → Int → Int → Int → MZ → Option (Int × MZ)} (hk39 : ∀ {x0 : Int64} {x1 : Int64} {x2 : Int64} {x3 : Int32} {x4 : Mem} {y0 : Int} {y1 : Int} {y2 : Int} {y3 : Int} {y4 : MZ}, tJ x0 = y0 → tJ x1 = y1 → tJ x2 = y2 → tI x3 = y3 → tz x4 = y4 → Lf tI (k39 x0 x1 x2 x3 x4) = k39' y0 y1 y2 y3 y4) {v2 : Int64} {v2' : Int} (hv2 : tJ v2 = v2') {v4 : Int64} {v4' : Int} (hv4 : tJ v4 = v4') {v6 : Int64} {v6' : Int} (hv6 : tJ v6 = v6') {v8 : Int32} {v8' : Int} (hv8 : tI v8 = v8') {S : Mem} {S' : MZ} (hS : tz S = S') : Lf tI (f_X0_startRoot_90 k39 v2 v4 v6 v8 S) = g_X0_startRoot_90 k39' v2' v4' v6' v8' S' := by
  unfold f_X0_startRoot_90 g_X0_startRoot_90
  exact (hk39 hv2 hv4 hv6 (pI_add hv8 rfl) hS)
def g_X0_startRoot_67 (k39 : Int → Int → Int → Int → MZ → Option (Int × MZ)) (v2 : Int) (v4 : Int) (v6 : Int) (v8 : Int) (v9 : Int) (S : MZ) : Option (Int × MZ) := (if v2 < (w64 (v9 * v9)) then (g_X0_startRoot_90 k39 v2 v4 (w64 (v9 - 1)) v8 S) else (g_X0_startRoot_90 k39 v2 v9 v6 v8 S))
theorem l_X0_startRoot_67 {k39 : Int64 → Int64 → Int64 → Int32 → Mem → Option (Int32 × Mem)} {k39' : Int → Int → Int → Int → MZ → Option (Int × MZ)} (hk39 : ∀ {x0 : Int64} {x1 : Int64} {x2 : Int64} {x3 : Int32} {x4 : Mem} {y0 : Int} {y1 : Int} {y2 : Int} {y3 : Int} {y4 : MZ}, tJ x0 = y0 → tJ x1 = y1 → tJ x2 = y2 → tI x3 = y3 → tz x4 = y4 → Lf tI (k39 x0 x1 x2 x3 x4) = k39' y0 y1 y2 y3 y4) {v2 : Int64} {v2' : Int} (hv2 : tJ v2 = v2') {v4 : Int64} {v4' : Int} (hv4 : tJ v4 = v4') {v6 : Int64} {v6' : Int} (hv6 : tJ v6 = v6') {v8 : Int32} {v8' : Int} (hv8 : tI v8 = v8') {v9 : Int64} {v9' : Int} (hv9 : tJ v9 = v9') {S : Mem} {S' : MZ} (hS : tz S = S') : Lf tI (f_X0_startRoot_67 k39 v2 v4 v6 v8 v9 S) = g_X0_startRoot_67 k39' v2' v4' v6' v8' v9' S' := by
  unfold f_X0_startRoot_67 g_X0_startRoot_67
  exact (Lf_if (cJ_lt hv2 (pJ_mul hv9 hv9)) (l_X0_startRoot_90 hk39 hv2 hv4 (pJ_sub hv9 rfl) hv8 hS) (l_X0_startRoot_90 hk39 hv2 hv9 hv6 hv8 hS))
def g_X0_startRoot_96 (v4 : Int) (S : MZ) : Option (Int × MZ) := (some ((w32 v4), S))
theorem l_X0_startRoot_96 {v4 : Int64} {v4' : Int} (hv4 : tJ v4 = v4') {S : Mem} {S' : MZ} (hS : tz S = S') : Lf tI (f_X0_startRoot_96 v4 S) = g_X0_startRoot_96 v4' S' := by
  unfold f_X0_startRoot_96 g_X0_startRoot_96
  exact (Lf_some (pI_of hv4) hS)
def g_X0_startRoot_39B (k39 : Int → Int → Int → Int → MZ → Option (Int × MZ)) (v2 : Int) (v4 : Int) (v6 : Int) (v8 : Int) (S : MZ) : Option (Int × MZ) := (if 64 ≤ v8 then (g_X0_startRoot_96 v4 S) else (if v6 ≤ v4 then (g_X0_startRoot_96 v4 S) else (g_X0_startRoot_67 k39 v2 v4 v6 v8 (w64 (Int.tdiv (w64 ((w64 (v4 + v6)) + 1)) 2)) S)))
theorem l_X0_startRoot_39B {k39 : Int64 → Int64 → Int64 → Int32 → Mem → Option (Int32 × Mem)} {k39' : Int → Int → Int → Int → MZ → Option (Int × MZ)} (hk39 : ∀ {x0 : Int64} {x1 : Int64} {x2 : Int64} {x3 : Int32} {x4 : Mem} {y0 : Int} {y1 : Int} {y2 : Int} {y3 : Int} {y4 : MZ}, tJ x0 = y0 → tJ x1 = y1 → tJ x2 = y2 → tI x3 = y3 → tz x4 = y4 → Lf tI (k39 x0 x1 x2 x3 x4) = k39' y0 y1 y2 y3 y4) {v2 : Int64} {v2' : Int} (hv2 : tJ v2 = v2') {v4 : Int64} {v4' : Int} (hv4 : tJ v4 = v4') {v6 : Int64} {v6' : Int} (hv6 : tJ v6 = v6') {v8 : Int32} {v8' : Int} (hv8 : tI v8 = v8') {S : Mem} {S' : MZ} (hS : tz S = S') : Lf tI (f_X0_startRoot_39B k39 v2 v4 v6 v8 S) = g_X0_startRoot_39B k39' v2' v4' v6' v8' S' := by
  unfold f_X0_startRoot_39B g_X0_startRoot_39B
  exact (Lf_if (cI_le rfl hv8) (l_X0_startRoot_96 hv4 hS) (Lf_if (cJ_le hv6 hv4) (l_X0_startRoot_96 hv4 hS) (l_X0_startRoot_67 hk39 hv2 hv4 hv6 hv8 (pJ_div (pJ_add (pJ_add hv4 hv6) rfl) rfl) hS)))
def g_X0_startRoot_39 : Nat → Int → Int → Int → Int → MZ → Option (Int × MZ)
  | 0 => fun _ _ _ _ _ => none
  | n + 1 => g_X0_startRoot_39B (g_X0_startRoot_39 n)
theorem l_X0_startRoot_39 : ∀ (n : Nat) {x0 : Int64} {x1 : Int64} {x2 : Int64} {x3 : Int32} {x4 : Mem} {y0 : Int} {y1 : Int} {y2 : Int} {y3 : Int} {y4 : MZ}, tJ x0 = y0 → tJ x1 = y1 → tJ x2 = y2 → tI x3 = y3 → tz x4 = y4 → Lf tI (f_X0_startRoot_39 n x0 x1 x2 x3 x4) = g_X0_startRoot_39 n y0 y1 y2 y3 y4
  | 0, _, _, _, _, _, _, _, _, _, _, _, _, _, _, _ => rfl
  | n + 1, _, _, _, _, _, _, _, _, _, _, e0, e1, e2, e3, e4 => l_X0_startRoot_39B (fun de0 de1 de2 de3 de4 => l_X0_startRoot_39 n de0 de1 de2 de3 de4) e0 e1 e2 e3 e4
def g_X0_startRoot_36 (v2 : Int) (v4 : Int) (v6 : Int) (S : MZ) : Option (Int × MZ) := (g_X0_startRoot_39 100000 v2 v4 v6 0 S)
theorem l_X0_startRoot_36 {v2 : Int64} {v2' : Int} (hv2 : tJ v2 = v2') {v4 : Int64} {v4' : Int} (hv4 : tJ v4 = v4') {v6 : Int64} {v6' : Int} (hv6 : tJ v6 = v6') {S : Mem} {S' : MZ} (hS : tz S = S') : Lf tI (f_X0_startRoot_36 v2 v4 v6 S) = g_X0_startRoot_36 v2' v4' v6' S' := by
  unfold f_X0_startRoot_36 g_X0_startRoot_36
  exact (l_X0_startRoot_39 100000 hv2 hv4 hv6 rfl hS)
def g_X0_startRoot_28 (v2 : Int) (v4 : Int) (S : MZ) : Option (Int × MZ) := ((g_X0_rootAt 40 S).bind fun q30 => (g_X0_startRoot_36 v2 v4 q30.1 q30.2))
theorem l_X0_startRoot_28 {v2 : Int64} {v2' : Int} (hv2 : tJ v2 = v2') {v4 : Int64} {v4' : Int} (hv4 : tJ v4 = v4') {S : Mem} {S' : MZ} (hS : tz S = S') : Lf tI (f_X0_startRoot_28 v2 v4 S) = g_X0_startRoot_28 v2' v4' S' := by
  unfold f_X0_startRoot_28 g_X0_startRoot_28
  exact (Lf_bind (l_X0_rootAt rfl hS) (fun q30 => (l_X0_startRoot_36 hv2 hv4 (pJ_of rfl) rfl)))
def g_X0_startRoot_20 (s0 : Int) (S : MZ) : Option (Int × MZ) := ((g_X0_rootAt 0 S).bind fun q22 => (g_X0_startRoot_28 s0 q22.1 q22.2))
theorem l_X0_startRoot_20 {s0 : Int64} {s0' : Int} (hs0 : tJ s0 = s0') {S : Mem} {S' : MZ} (hS : tz S = S') : Lf tI (f_X0_startRoot_20 s0 S) = g_X0_startRoot_20 s0' S' := by
  unfold f_X0_startRoot_20 g_X0_startRoot_20
  exact (Lf_bind (l_X0_rootAt rfl hS) (fun q22 => (l_X0_startRoot_28 hs0 (pJ_of rfl) rfl)))
def g_X0_startRoot (p0 : Int) (p1 : Int) (S : MZ) : Option (Int × MZ) := (if 1 ≤ p1 then (if p1 = 0 then none else (g_X0_startRoot_20 (w64 (Int.tdiv (w64 (10000000000 * p0)) p1)) S)) else (g_X0_startRoot_20 10000000000 S))
theorem l_X0_startRoot {p0 : Int32} {p0' : Int} (hp0 : tI p0 = p0') {p1 : Int32} {p1' : Int} (hp1 : tI p1 = p1') {S : Mem} {S' : MZ} (hS : tz S = S') : Lf tI (f_X0_startRoot p0 p1 S) = g_X0_startRoot p0' p1' S' := by
  unfold f_X0_startRoot g_X0_startRoot
  exact (Lf_if (cI_le rfl hp1) (Lf_if (cJ_eq (pJ_of hp1) rfl) rfl (l_X0_startRoot_20 (pJ_div (pJ_mul rfl (pJ_of hp0)) (pJ_of hp1)) hS)) (l_X0_startRoot_20 rfl hS))
def g_X0_between_43 (S : MZ) : Option (Int × MZ) := (some (0, S))
theorem l_X0_between_43 {S : Mem} {S' : MZ} (hS : tz S = S') : Lf tJ (f_X0_between_43 S) = g_X0_between_43 S' := by
  unfold f_X0_between_43 g_X0_between_43
  exact (Lf_some rfl hS)
def g_X0_between_121 (s0 : Int) (S : MZ) : Option (Int × MZ) := (some (s0, S))
theorem l_X0_between_121 {s0 : Int64} {s0' : Int} (hs0 : tJ s0 = s0') {S : Mem} {S' : MZ} (hS : tz S = S') : Lf tJ (f_X0_between_121 s0 S) = g_X0_between_121 s0' S' := by
  unfold f_X0_between_121 g_X0_between_121
  exact (Lf_some hs0 hS)
def g_X0_between_119 (v16 : Int) (S : MZ) : Option (Int × MZ) := (g_X0_between_121 v16 S)
theorem l_X0_between_119 {v16 : Int64} {v16' : Int} (hv16 : tJ v16 = v16') {S : Mem} {S' : MZ} (hS : tz S = S') : Lf tJ (f_X0_between_119 v16 S) = g_X0_between_119 v16' S' := by
  unfold f_X0_between_119 g_X0_between_119
  exact (l_X0_between_121 hv16 hS)
def g_X0_between_96 (v7 : Int) (v12 : Int) (v14 : Int) (v16 : Int) (S : MZ) : Option (Int × MZ) := (if v7 = 0 then (g_X0_between_119 v16 S) else (if (w64 (v16 * v14)) = v12 then (g_X0_between_119 v16 S) else (g_X0_between_121 (w64 (v16 + 1)) S)))
theorem l_X0_between_96 {v7 : Int32} {v7' : Int} (hv7 : tI v7 = v7') {v12 : Int64} {v12' : Int} (hv12 : tJ v12 = v12') {v14 : Int64} {v14' : Int} (hv14 : tJ v14 = v14') {v16 : Int64} {v16' : Int} (hv16 : tJ v16 = v16') {S : Mem} {S' : MZ} (hS : tz S = S') : Lf tJ (f_X0_between_96 v7 v12 v14 v16 S) = g_X0_between_96 v7' v12' v14' v16' S' := by
  unfold f_X0_between_96 g_X0_between_96
  exact (Lf_if (cI_eq hv7 rfl) (l_X0_between_119 hv16 hS) (Lf_if (cJ_eq (pJ_mul hv16 hv14) hv12) (l_X0_between_119 hv16 hS) (l_X0_between_121 (pJ_add hv16 rfl) hS)))
def g_X0_between_87 (v7 : Int) (v12 : Int) (s0 : Int) (S : MZ) : Option (Int × MZ) := (if s0 = 0 then none else (g_X0_between_96 v7 v12 s0 (w64 (Int.tdiv v12 s0)) S))
theorem l_X0_between_87 {v7 : Int32} {v7' : Int} (hv7 : tI v7 = v7') {v12 : Int64} {v12' : Int} (hv12 : tJ v12 = v12') {s0 : Int64} {s0' : Int} (hs0 : tJ s0 = s0') {S : Mem} {S' : MZ} (hS : tz S = S') : Lf tJ (f_X0_between_87 v7 v12 s0 S) = g_X0_between_87 v7' v12' s0' S' := by
  unfold f_X0_between_87 g_X0_between_87
  exact (Lf_if (cJ_eq hs0 rfl) rfl (l_X0_between_96 hv7 hv12 hs0 (pJ_div hv12 hs0) hS))
def g_X0_between_70 (v0 : Int) (v7 : Int) (v8 : Int) (v10 : Int) (s0 : Int) (S : MZ) : Option (Int × MZ) := (if v0 = 0 then (g_X0_between_87 v7 s0 100000 S) else (g_X0_between_87 v7 s0 (w64 (v8 * v10)) S))
theorem l_X0_between_70 {v0 : Int32} {v0' : Int} (hv0 : tI v0 = v0') {v7 : Int32} {v7' : Int} (hv7 : tI v7 = v7') {v8 : Int64} {v8' : Int} (hv8 : tJ v8 = v8') {v10 : Int64} {v10' : Int} (hv10 : tJ v10 = v10') {s0 : Int64} {s0' : Int} (hs0 : tJ s0 = s0') {S : Mem} {S' : MZ} (hS : tz S = S') : Lf tJ (f_X0_between_70 v0 v7 v8 v10 s0 S) = g_X0_between_70 v0' v7' v8' v10' s0' S' := by
  unfold f_X0_between_70 g_X0_between_70
  exact (Lf_if (cI_eq hv0 rfl) (l_X0_between_87 hv7 hs0 rfl hS) (l_X0_between_87 hv7 hs0 (pJ_mul hv8 hv10) hS))
def g_X0_between_28 (v0 : Int) (v1 : Int) (v7 : Int) (v8 : Int) (s0 : Int) (S : MZ) : Option (Int × MZ) := (if v1 ≤ 0 then (g_X0_between_43 S) else (if 0 < v8 then (if v0 = 0 then (g_X0_between_70 v0 v7 v8 s0 (w64 (v1 * (w64 (s0 - v8)))) S) else (g_X0_between_70 v0 v7 v8 s0 (w64 ((w64 (v1 * 100000)) * (w64 (s0 - v8)))) S)) else (g_X0_between_43 S)))
theorem l_X0_between_28 {v0 : Int32} {v0' : Int} (hv0 : tI v0 = v0') {v1 : Int64} {v1' : Int} (hv1 : tJ v1 = v1') {v7 : Int32} {v7' : Int} (hv7 : tI v7 = v7') {v8 : Int64} {v8' : Int} (hv8 : tJ v8 = v8') {s0 : Int64} {s0' : Int} (hs0 : tJ s0 = s0') {S : Mem} {S' : MZ} (hS : tz S = S') : Lf tJ (f_X0_between_28 v0 v1 v7 v8 s0 S) = g_X0_between_28 v0' v1' v7' v8' s0' S' := by
  unfold f_X0_between_28 g_X0_between_28
  exact (Lf_if (cJ_le hv1 rfl) (l_X0_between_43 hS) (Lf_if (cJ_lt rfl hv8) (Lf_if (cI_eq hv0 rfl) (l_X0_between_70 hv0 hv7 hv8 hs0 (pJ_mul hv1 (pJ_sub hs0 hv8)) hS) (l_X0_between_70 hv0 hv7 hv8 hs0 (pJ_mul (pJ_mul hv1 rfl) (pJ_sub hs0 hv8)) hS)) (l_X0_between_43 hS)))
def g_X0_between_13 (v0 : Int) (v1 : Int) (v3 : Int) (v5 : Int) (v7 : Int) (s0 : Int) (S : MZ) : Option (Int × MZ) := (if v5 ≤ v3 then (g_X0_between_28 v0 v1 v7 s0 v3 S) else (g_X0_between_28 v0 v1 v7 s0 v5 S))
theorem l_X0_between_13 {v0 : Int32} {v0' : Int} (hv0 : tI v0 = v0') {v1 : Int64} {v1' : Int} (hv1 : tJ v1 = v1') {v3 : Int64} {v3' : Int} (hv3 : tJ v3 = v3') {v5 : Int64} {v5' : Int} (hv5 : tJ v5 = v5') {v7 : Int32} {v7' : Int} (hv7 : tI v7 = v7') {s0 : Int64} {s0' : Int} (hs0 : tJ s0 = s0') {S : Mem} {S' : MZ} (hS : tz S = S') : Lf tJ (f_X0_between_13 v0 v1 v3 v5 v7 s0 S) = g_X0_between_13 v0' v1' v3' v5' v7' s0' S' := by
  unfold f_X0_between_13 g_X0_between_13
  exact (Lf_if (cJ_le hv5 hv3) (l_X0_between_28 hv0 hv1 hv7 hs0 hv3 hS) (l_X0_between_28 hv0 hv1 hv7 hs0 hv5 hS))
def g_X0_between (p0 : Int) (p1 : Int) (p3 : Int) (p5 : Int) (p7 : Int) (S : MZ) : Option (Int × MZ) := (if p5 ≤ p3 then (g_X0_between_13 p0 p1 p3 p5 p7 p5 S) else (g_X0_between_13 p0 p1 p3 p5 p7 p3 S))
theorem l_X0_between {p0 : Int32} {p0' : Int} (hp0 : tI p0 = p0') {p1 : Int64} {p1' : Int} (hp1 : tJ p1 = p1') {p3 : Int64} {p3' : Int} (hp3 : tJ p3 = p3') {p5 : Int64} {p5' : Int} (hp5 : tJ p5 = p5') {p7 : Int32} {p7' : Int} (hp7 : tI p7 = p7') {S : Mem} {S' : MZ} (hS : tz S = S') : Lf tJ (f_X0_between p0 p1 p3 p5 p7 S) = g_X0_between p0' p1' p3' p5' p7' S' := by
  unfold f_X0_between g_X0_between
  exact (Lf_if (cJ_le hp5 hp3) (l_X0_between_13 hp0 hp1 hp3 hp5 hp7 hp5 hS) (l_X0_between_13 hp0 hp1 hp3 hp5 hp7 hp3 hS))
def g_X0_upwards_17 (s0 : Int) (S : MZ) : Option (Int × MZ) := (some (s0, S))
theorem l_X0_upwards_17 {s0 : Int64} {s0' : Int} (hs0 : tJ s0 = s0') {S : Mem} {S' : MZ} (hS : tz S = S') : Lf tJ (f_X0_upwards_17 s0 S) = g_X0_upwards_17 s0' S' := by
  unfold f_X0_upwards_17 g_X0_upwards_17
  exact (Lf_some hs0 hS)
def g_X0_upwards (p0 : Int) (p2 : Int) (S : MZ) : Option (Int × MZ) := (if 0 < p2 then (if p2 = 0 then none else (g_X0_upwards_17 (w64 (Int.tdiv (w64 ((w64 (p0 + p2)) - 1)) p2)) S)) else (g_X0_upwards_17 0 S))
theorem l_X0_upwards {p0 : Int64} {p0' : Int} (hp0 : tJ p0 = p0') {p2 : Int64} {p2' : Int} (hp2 : tJ p2 = p2') {S : Mem} {S' : MZ} (hS : tz S = S') : Lf tJ (f_X0_upwards p0 p2 S) = g_X0_upwards p0' p2' S' := by
  unfold f_X0_upwards g_X0_upwards
  exact (Lf_if (cJ_lt rfl hp2) (Lf_if (cJ_eq hp2 rfl) rfl (l_X0_upwards_17 (pJ_div (pJ_sub (pJ_add hp0 hp2) rfl) hp2) hS)) (l_X0_upwards_17 rfl hS))
def g_X0_rootBehindIn_20 (v3 : Int) (v5 : Int) (v7 : Int) (S : MZ) : Option (Int × MZ) := ((g_X0_upwards (w64 (v7 * v3)) (w64 (v7 + (w64 (v5 * v3)))) S).bind fun q31 => (some ((w32 q31.1), q31.2)))
theorem l_X0_rootBehindIn_20 {v3 : Int64} {v3' : Int} (hv3 : tJ v3 = v3') {v5 : Int64} {v5' : Int} (hv5 : tJ v5 = v5') {v7 : Int64} {v7' : Int} (hv7 : tJ v7 = v7') {S : Mem} {S' : MZ} (hS : tz S = S') : Lf tI (f_X0_rootBehindIn_20 v3 v5 v7 S) = g_X0_rootBehindIn_20 v3' v5' v7' S' := by
  unfold f_X0_rootBehindIn_20 g_X0_rootBehindIn_20
  exact (Lf_bind (l_X0_upwards (pJ_mul hv7 hv3) (pJ_add hv7 (pJ_mul hv5 hv3)) hS) (fun q31 => (Lf_some (pI_of rfl) rfl)))
def g_X0_rootBehindIn (p0 : Int) (p1 : Int) (p3 : Int) (p5 : Int) (S : MZ) : Option (Int × MZ) := (if 0 < p1 then (if p0 = 0 then (g_X0_rootBehindIn_20 p3 p5 (w64 (p1 * 100000)) S) else (if p1 = 0 then none else (some ((w32 (w64 (p3 + (w64 (Int.tdiv (w64 (p5 * 100000)) p1))))), S)))) else (some ((w32 p3), S)))
theorem l_X0_rootBehindIn {p0 : Int32} {p0' : Int} (hp0 : tI p0 = p0') {p1 : Int64} {p1' : Int} (hp1 : tJ p1 = p1') {p3 : Int64} {p3' : Int} (hp3 : tJ p3 = p3') {p5 : Int64} {p5' : Int} (hp5 : tJ p5 = p5') {S : Mem} {S' : MZ} (hS : tz S = S') : Lf tI (f_X0_rootBehindIn p0 p1 p3 p5 S) = g_X0_rootBehindIn p0' p1' p3' p5' S' := by
  unfold f_X0_rootBehindIn g_X0_rootBehindIn
  exact (Lf_if (cJ_lt rfl hp1) (Lf_if (cI_eq hp0 rfl) (l_X0_rootBehindIn_20 hp3 hp5 (pJ_mul hp1 rfl) hS) (Lf_if (cJ_eq hp1 rfl) rfl (Lf_some (pI_of (pJ_add hp3 (pJ_div (pJ_mul hp5 rfl) hp1))) hS))) (Lf_some (pI_of hp3) hS))
def g_X0_rootBehindOut_25 (v3 : Int) (v5 : Int) (v7 : Int) (S : MZ) : Option (Int × MZ) := ((g_X0_upwards (w64 (v7 * v3)) (w64 (v7 - (w64 (v5 * v3)))) S).bind fun q36 => (some ((w32 q36.1), q36.2)))
theorem l_X0_rootBehindOut_25 {v3 : Int64} {v3' : Int} (hv3 : tJ v3 = v3') {v5 : Int64} {v5' : Int} (hv5 : tJ v5 = v5') {v7 : Int64} {v7' : Int} (hv7 : tJ v7 = v7') {S : Mem} {S' : MZ} (hS : tz S = S') : Lf tI (f_X0_rootBehindOut_25 v3 v5 v7 S) = g_X0_rootBehindOut_25 v3' v5' v7' S' := by
  unfold f_X0_rootBehindOut_25 g_X0_rootBehindOut_25
  exact (Lf_bind (l_X0_upwards (pJ_mul hv7 hv3) (pJ_sub hv7 (pJ_mul hv5 hv3)) hS) (fun q36 => (Lf_some (pI_of rfl) rfl)))
def g_X0_rootBehindOut (p0 : Int) (p1 : Int) (p3 : Int) (p5 : Int) (S : MZ) : Option (Int × MZ) := (if p0 = 0 then ((g_X0_upwards (w64 (p5 * 100000)) p1 S).bind fun q12 => (some ((w32 (w64 (p3 - q12.1))), q12.2))) else (g_X0_rootBehindOut_25 p3 p5 (w64 (p1 * 100000)) S))
theorem l_X0_rootBehindOut {p0 : Int32} {p0' : Int} (hp0 : tI p0 = p0') {p1 : Int64} {p1' : Int} (hp1 : tJ p1 = p1') {p3 : Int64} {p3' : Int} (hp3 : tJ p3 = p3') {p5 : Int64} {p5' : Int} (hp5 : tJ p5 = p5') {S : Mem} {S' : MZ} (hS : tz S = S') : Lf tI (f_X0_rootBehindOut p0 p1 p3 p5 S) = g_X0_rootBehindOut p0' p1' p3' p5' S' := by
  unfold f_X0_rootBehindOut g_X0_rootBehindOut
  exact (Lf_if (cI_eq hp0 rfl) (Lf_bind (l_X0_upwards (pJ_mul hp5 rfl) hp1 hS) (fun q12 => (Lf_some (pI_of (pJ_sub hp3 rfl)) rfl))) (l_X0_rootBehindOut_25 hp3 hp5 (pJ_mul hp1 rfl) hS))
def g_X1_bestPool_32 (s0 : Int) (S : MZ) : Option (Int × MZ) := (some (s0, S))
theorem l_X1_bestPool_32 {s0 : Int32} {s0' : Int} (hs0 : tI s0 = s0') {S : Mem} {S' : MZ} (hS : tz S = S') : Lf tI (f_X1_bestPool_32 s0 S) = g_X1_bestPool_32 s0' S' := by
  unfold f_X1_bestPool_32 g_X1_bestPool_32
  exact (Lf_some hs0 hS)
def g_X1_bestPool_30 (S : MZ) : Option (Int × MZ) := (g_X1_bestPool_32 (-2) S)
theorem l_X1_bestPool_30 {S : Mem} {S' : MZ} (hS : tz S = S') : Lf tI (f_X1_bestPool_30 S) = g_X1_bestPool_30 S' := by
  unfold f_X1_bestPool_30 g_X1_bestPool_30
  exact (l_X1_bestPool_32 rfl hS)
def g_X1_bestPool (p1 : Int) (S : MZ) : Option (Int × MZ) := (if p1 < 0 then (g_X1_bestPool_30 S) else (if (zI S 14 2) ≤ p1 then (g_X1_bestPool_30 S) else (if 3 ≤ p1 then (g_X1_bestPool_30 S) else (if (0 ≤ p1 ∧ p1 < ((3 : Nat) : Int)) then (g_X1_bestPool_32 (zI S 15 (p1).toNat) S) else none))))
theorem l_X1_bestPool {p1 : Int32} {p1' : Int} (hp1 : tI p1 = p1') {S : Mem} {S' : MZ} (hS : tz S = S') : Lf tI (f_X1_bestPool p1 S) = g_X1_bestPool p1' S' := by
  unfold f_X1_bestPool g_X1_bestPool
  exact (Lf_if (cI_lt hp1 rfl) (l_X1_bestPool_30 hS) (Lf_if (cI_le (pI_g hS rfl rfl) hp1) (l_X1_bestPool_30 hS) (Lf_if (cI_le rfl hp1) (l_X1_bestPool_30 hS) (Lf_if (c_inb hp1 rfl) (l_X1_bestPool_32 (pI_g hS rfl (pN_of hp1)) hS) rfl))))
def g_X1_bestCode_35 (k4 : Int → Int → MZ → Option (Int × MZ)) (v1 : Int) (v2 : Int) (S : MZ) : Option (Int × MZ) := (k4 v1 (w32 (v2 + 1)) S)
theorem l_X1_bestCode_35 {k4 : Int32 → Int32 → Mem → Option (Int32 × Mem)} {k4' : Int → Int → MZ → Option (Int × MZ)} (hk4 : ∀ {x0 : Int32} {x1 : Int32} {x2 : Mem} {y0 : Int} {y1 : Int} {y2 : MZ}, tI x0 = y0 → tI x1 = y1 → tz x2 = y2 → Lf tI (k4 x0 x1 x2) = k4' y0 y1 y2) {v1 : Int32} {v1' : Int} (hv1 : tI v1 = v1') {v2 : Int32} {v2' : Int} (hv2 : tI v2 = v2') {S : Mem} {S' : MZ} (hS : tz S = S') : Lf tI (f_X1_bestCode_35 k4 v1 v2 S) = g_X1_bestCode_35 k4' v1' v2' S' := by
  unfold f_X1_bestCode_35 g_X1_bestCode_35
  exact (hk4 hv1 (pI_add hv2 rfl) hS)
def g_X1_bestCode_41 (v1 : Int) (S : MZ) : Option (Int × MZ) := (some (v1, S))
theorem l_X1_bestCode_41 {v1 : Int32} {v1' : Int} (hv1 : tI v1 = v1') {S : Mem} {S' : MZ} (hS : tz S = S') : Lf tI (f_X1_bestCode_41 v1 S) = g_X1_bestCode_41 v1' S' := by
  unfold f_X1_bestCode_41 g_X1_bestCode_41
  exact (Lf_some hv1 hS)
def g_X1_bestCode_4B (k4 : Int → Int → MZ → Option (Int × MZ)) (v1 : Int) (v2 : Int) (S : MZ) : Option (Int × MZ) := (if (zI S 14 2) ≤ v2 then (g_X1_bestCode_41 v1 S) else (if 3 ≤ v2 then (g_X1_bestCode_41 v1 S) else (if (0 ≤ v2 ∧ v2 < ((3 : Nat) : Int)) then (g_X1_bestCode_35 k4 (w32 ((w32 ((w32 (v1 * 6)) + (zI S 15 (v2).toNat))) + 1)) v2 S) else none)))
theorem l_X1_bestCode_4B {k4 : Int32 → Int32 → Mem → Option (Int32 × Mem)} {k4' : Int → Int → MZ → Option (Int × MZ)} (hk4 : ∀ {x0 : Int32} {x1 : Int32} {x2 : Mem} {y0 : Int} {y1 : Int} {y2 : MZ}, tI x0 = y0 → tI x1 = y1 → tz x2 = y2 → Lf tI (k4 x0 x1 x2) = k4' y0 y1 y2) {v1 : Int32} {v1' : Int} (hv1 : tI v1 = v1') {v2 : Int32} {v2' : Int} (hv2 : tI v2 = v2') {S : Mem} {S' : MZ} (hS : tz S = S') : Lf tI (f_X1_bestCode_4B k4 v1 v2 S) = g_X1_bestCode_4B k4' v1' v2' S' := by
  unfold f_X1_bestCode_4B g_X1_bestCode_4B
  exact (Lf_if (cI_le (pI_g hS rfl rfl) hv2) (l_X1_bestCode_41 hv1 hS) (Lf_if (cI_le rfl hv2) (l_X1_bestCode_41 hv1 hS) (Lf_if (c_inb hv2 rfl) (l_X1_bestCode_35 hk4 (pI_add (pI_add (pI_mul hv1 rfl) (pI_g hS rfl (pN_of hv2))) rfl) hv2 hS) rfl)))
def g_X1_bestCode_4 : Nat → Int → Int → MZ → Option (Int × MZ)
  | 0 => fun _ _ _ => none
  | n + 1 => g_X1_bestCode_4B (g_X1_bestCode_4 n)
theorem l_X1_bestCode_4 : ∀ (n : Nat) {x0 : Int32} {x1 : Int32} {x2 : Mem} {y0 : Int} {y1 : Int} {y2 : MZ}, tI x0 = y0 → tI x1 = y1 → tz x2 = y2 → Lf tI (f_X1_bestCode_4 n x0 x1 x2) = g_X1_bestCode_4 n y0 y1 y2
  | 0, _, _, _, _, _, _, _, _, _ => rfl
  | n + 1, _, _, _, _, _, _, e0, e1, e2 => l_X1_bestCode_4B (fun de0 de1 de2 => l_X1_bestCode_4 n de0 de1 de2) e0 e1 e2
def g_X1_bestCode (S : MZ) : Option (Int × MZ) := (g_X1_bestCode_4 100000 1 0 S)
theorem l_X1_bestCode {S : Mem} {S' : MZ} (hS : tz S = S') : Lf tI (f_X1_bestCode S) = g_X1_bestCode S' := by
  unfold f_X1_bestCode g_X1_bestCode
  exact (l_X1_bestCode_4 100000 rfl rfl hS)
def g_X1_forget (p1 : Int) (S : MZ) : Option (Unit × MZ) := (some ((), (uI (uI (uL S 14 0 p1) 14 1 0) 14 2 0)))
theorem l_X1_forget {p1 : Int32} {p1' : Int} (hp1 : tI p1 = p1') {S : Mem} {S' : MZ} (hS : tz S = S') : Lf tU (f_X1_forget p1 S) = g_X1_forget p1' S' := by
  unfold f_X1_forget g_X1_forget
  exact (Lf_some rfl (pM_I (pM_I (pM_L hS rfl rfl (pJ_of hp1)) rfl rfl rfl) rfl rfl rfl))
def g_X2_poolAt_31 (s0 : Nat) (S : MZ) : Option (Nat × MZ) := (some (s0, S))
theorem l_X2_poolAt_31 {s0 : Nat} {s0' : Nat} (hs0 : s0 = s0') {S : Mem} {S' : MZ} (hS : tz S = S') : Lf tR (f_X2_poolAt_31 s0 S) = g_X2_poolAt_31 s0' S' := by
  unfold f_X2_poolAt_31 g_X2_poolAt_31
  exact (Lf_some hs0 hS)
def g_X2_poolAt_30 (S : MZ) : Option (Nat × MZ) := (g_X2_poolAt_31 0 S)
theorem l_X2_poolAt_30 {S : Mem} {S' : MZ} (hS : tz S = S') : Lf tR (f_X2_poolAt_30 S) = g_X2_poolAt_30 S' := by
  unfold f_X2_poolAt_30 g_X2_poolAt_30
  exact (l_X2_poolAt_31 rfl hS)
def g_X2_poolAt (h0 : Nat) (p1 : Int) (S : MZ) : Option (Nat × MZ) := (if p1 < 0 then (g_X2_poolAt_30 S) else (if kd h0 = (1, 9) then (if (zI S h0 2) ≤ p1 then (g_X2_poolAt_30 S) else (if 5 ≤ p1 then (g_X2_poolAt_30 S) else (if (0 ≤ p1 ∧ p1 < ((5 : Nat) : Int)) then (g_X2_poolAt_31 (((h0 + 2) + 2) + (5 * (p1).toNat)) S) else none))) else none))
theorem l_X2_poolAt {h0 : Nat} {h0' : Nat} (hh0 : h0 = h0') {p1 : Int32} {p1' : Int} (hp1 : tI p1 = p1') {S : Mem} {S' : MZ} (hS : tz S = S') : Lf tR (f_X2_poolAt h0 p1 S) = g_X2_poolAt h0' p1' S' := by
  unfold f_X2_poolAt g_X2_poolAt
  exact (Lf_if (cI_lt hp1 rfl) (l_X2_poolAt_30 hS) (Lf_if (c_kd hh0) (Lf_if (cI_le (pI_g hS hh0 rfl) hp1) (l_X2_poolAt_30 hS) (Lf_if (cI_le rfl hp1) (l_X2_poolAt_30 hS) (Lf_if (c_inb hp1 rfl) (l_X2_poolAt_31 (pR_add (pR_add (pR_add hh0 rfl) rfl) (pR_mul rfl (pN_of hp1))) hS) rfl))) rfl))
def g_X4_sideOf_23 (s0 : Int) (S : MZ) : Option (Int × MZ) := (some (s0, S))
theorem l_X4_sideOf_23 {s0 : Int32} {s0' : Int} (hs0 : tI s0 = s0') {S : Mem} {S' : MZ} (hS : tz S = S') : Lf tI (f_X4_sideOf_23 s0 S) = g_X4_sideOf_23 s0' S' := by
  unfold f_X4_sideOf_23 g_X4_sideOf_23
  exact (Lf_some hs0 hS)
def g_X4_sideOf (h0 : Nat) (p1 : Int) (S : MZ) : Option (Int × MZ) := (if kd h0 = (3, 12) then (if p1 = (zI S h0 0) then (some (0, S)) else (if p1 = (zI S h0 1) then (g_X4_sideOf_23 1 S) else (g_X4_sideOf_23 (-1) S))) else none)
theorem l_X4_sideOf {h0 : Nat} {h0' : Nat} (hh0 : h0 = h0') {p1 : Int32} {p1' : Int} (hp1 : tI p1 = p1') {S : Mem} {S' : MZ} (hS : tz S = S') : Lf tI (f_X4_sideOf h0 p1 S) = g_X4_sideOf h0' p1' S' := by
  unfold f_X4_sideOf g_X4_sideOf
  exact (Lf_if (c_kd hh0) (Lf_if (cI_eq hp1 (pI_g hS hh0 rfl)) (Lf_some rfl hS) (Lf_if (cI_eq hp1 (pI_g hS hh0 rfl)) (l_X4_sideOf_23 rfl hS) (l_X4_sideOf_23 rfl hS))) rfl)
def g_X4_thingOn_15 (s0 : Int) (S : MZ) : Option (Int × MZ) := (some (s0, S))
theorem l_X4_thingOn_15 {s0 : Int32} {s0' : Int} (hs0 : tI s0 = s0') {S : Mem} {S' : MZ} (hS : tz S = S') : Lf tI (f_X4_thingOn_15 s0 S) = g_X4_thingOn_15 s0' S' := by
  unfold f_X4_thingOn_15 g_X4_thingOn_15
  exact (Lf_some hs0 hS)
def g_X4_thingOn (h0 : Nat) (p1 : Int) (S : MZ) : Option (Int × MZ) := (if p1 = 0 then (if kd h0 = (3, 12) then (g_X4_thingOn_15 (zI S h0 0) S) else none) else (if kd h0 = (3, 12) then (g_X4_thingOn_15 (zI S h0 1) S) else none))
theorem l_X4_thingOn {h0 : Nat} {h0' : Nat} (hh0 : h0 = h0') {p1 : Int32} {p1' : Int} (hp1 : tI p1 = p1') {S : Mem} {S' : MZ} (hS : tz S = S') : Lf tI (f_X4_thingOn h0 p1 S) = g_X4_thingOn h0' p1' S' := by
  unfold f_X4_thingOn g_X4_thingOn
  exact (Lf_if (cI_eq hp1 rfl) (Lf_if (c_kd hh0) (l_X4_thingOn_15 (pI_g hS hh0 rfl) hS) rfl) (Lf_if (c_kd hh0) (l_X4_thingOn_15 (pI_g hS hh0 rfl) hS) rfl))
def g_X1_otherThing_99 (s0 : Int) (S : MZ) : Option (Int × MZ) := (some (s0, S))
theorem l_X1_otherThing_99 {s0 : Int32} {s0' : Int} (hs0 : tI s0 = s0') {S : Mem} {S' : MZ} (hS : tz S = S') : Lf tI (f_X1_otherThing_99 s0 S) = g_X1_otherThing_99 s0' S' := by
  unfold f_X1_otherThing_99 g_X1_otherThing_99
  exact (Lf_some hs0 hS)
def g_X1_otherThing_78 (v4 : Nat) (s0 : Int) (S : MZ) : Option (Int × MZ) := (if s0 = (-1) then (g_X1_otherThing_99 (-1) S) else (if kd v4 = (3, 12) then ((g_X4_thingOn v4 (w32 (1 - s0)) S).bind fun q96 => (g_X1_otherThing_99 q96.1 q96.2)) else none))
theorem l_X1_otherThing_78 {v4 : Nat} {v4' : Nat} (hv4 : v4 = v4') {s0 : Int32} {s0' : Int} (hs0 : tI s0 = s0') {S : Mem} {S' : MZ} (hS : tz S = S') : Lf tI (f_X1_otherThing_78 v4 s0 S) = g_X1_otherThing_78 v4' s0' S' := by
  unfold f_X1_otherThing_78 g_X1_otherThing_78
  exact (Lf_if (cI_eq hs0 rfl) (l_X1_otherThing_99 rfl hS) (Lf_if (c_kd hv4) (Lf_bind (l_X4_thingOn hv4 (pI_sub rfl hs0) hS) (fun q96 => (l_X1_otherThing_99 rfl rfl))) rfl))
def g_X1_otherThing_63 (v4 : Nat) (S : MZ) : Option (Int × MZ) := (g_X1_otherThing_78 v4 (-1) S)
theorem l_X1_otherThing_63 {v4 : Nat} {v4' : Nat} (hv4 : v4 = v4') {S : Mem} {S' : MZ} (hS : tz S = S') : Lf tI (f_X1_otherThing_63 v4 S) = g_X1_otherThing_63 v4' S' := by
  unfold f_X1_otherThing_63 g_X1_otherThing_63
  exact (l_X1_otherThing_78 hv4 rfl hS)
def g_X1_otherThing_38 (v1 : Nat) (v2 : Int) (v3 : Int) (S : MZ) : Option (Int × MZ) := (if kd v1 = (1, 9) then ((g_X2_poolAt v1 v3 S).bind fun q40 => (if q40.1 = 0 then (g_X1_otherThing_63 q40.1 q40.2) else (if v2 < 0 then (g_X1_otherThing_63 q40.1 q40.2) else (if v2 < 3 then (if (0 ≤ v2 ∧ v2 < ((3 : Nat) : Int)) then (if kd q40.1 = (3, 12) then ((g_X4_sideOf q40.1 (zI q40.2 17 (v2).toNat) q40.2).bind fun q75 => (g_X1_otherThing_78 q40.1 q75.1 q75.2)) else none) else none) else (g_X1_otherThing_63 q40.1 q40.2))))) else none)
theorem l_X1_otherThing_38 {v1 : Nat} {v1' : Nat} (hv1 : v1 = v1') {v2 : Int32} {v2' : Int} (hv2 : tI v2 = v2') {v3 : Int32} {v3' : Int} (hv3 : tI v3 = v3') {S : Mem} {S' : MZ} (hS : tz S = S') : Lf tI (f_X1_otherThing_38 v1 v2 v3 S) = g_X1_otherThing_38 v1' v2' v3' S' := by
  unfold f_X1_otherThing_38 g_X1_otherThing_38
  exact (Lf_if (c_kd hv1) (Lf_bind (l_X2_poolAt hv1 hv3 hS) (fun q40 => (Lf_if (cR_eq rfl rfl) (l_X1_otherThing_63 rfl rfl) (Lf_if (cI_lt hv2 rfl) (l_X1_otherThing_63 rfl rfl) (Lf_if (cI_lt hv2 rfl) (Lf_if (c_inb hv2 rfl) (Lf_if (c_kd rfl) (Lf_bind (l_X4_sideOf rfl (pI_g rfl rfl (pN_of hv2)) rfl) (fun q75 => (l_X1_otherThing_78 rfl rfl rfl))) rfl) rfl) (l_X1_otherThing_63 rfl rfl)))))) rfl)
def g_X1_otherThing_3B (k3 : Nat → Int → Int → Int → MZ → Option (Int × MZ)) (v1 : Nat) (v2 : Int) (v3 : Int) (v4 : Int) (S : MZ) : Option (Int × MZ) := (if v2 ≤ v4 then (g_X1_otherThing_38 v1 v2 v3 S) else (if 3 ≤ v4 then (g_X1_otherThing_38 v1 v2 v3 S) else (if (0 ≤ v4 ∧ v4 < ((3 : Nat) : Int)) then (if (zI S 16 (v4).toNat) = v3 then (some ((-1), S)) else (k3 v1 v2 v3 (w32 (v4 + 1)) S)) else none)))
theorem l_X1_otherThing_3B {k3 : Nat → Int32 → Int32 → Int32 → Mem → Option (Int32 × Mem)} {k3' : Nat → Int → Int → Int → MZ → Option (Int × MZ)} (hk3 : ∀ {x0 : Nat} {x1 : Int32} {x2 : Int32} {x3 : Int32} {x4 : Mem} {y0 : Nat} {y1 : Int} {y2 : Int} {y3 : Int} {y4 : MZ}, x0 = y0 → tI x1 = y1 → tI x2 = y2 → tI x3 = y3 → tz x4 = y4 → Lf tI (k3 x0 x1 x2 x3 x4) = k3' y0 y1 y2 y3 y4) {v1 : Nat} {v1' : Nat} (hv1 : v1 = v1') {v2 : Int32} {v2' : Int} (hv2 : tI v2 = v2') {v3 : Int32} {v3' : Int} (hv3 : tI v3 = v3') {v4 : Int32} {v4' : Int} (hv4 : tI v4 = v4') {S : Mem} {S' : MZ} (hS : tz S = S') : Lf tI (f_X1_otherThing_3B k3 v1 v2 v3 v4 S) = g_X1_otherThing_3B k3' v1' v2' v3' v4' S' := by
  unfold f_X1_otherThing_3B g_X1_otherThing_3B
  exact (Lf_if (cI_le hv2 hv4) (l_X1_otherThing_38 hv1 hv2 hv3 hS) (Lf_if (cI_le rfl hv4) (l_X1_otherThing_38 hv1 hv2 hv3 hS) (Lf_if (c_inb hv4 rfl) (Lf_if (cI_eq (pI_g hS rfl (pN_of hv4)) hv3) (Lf_some rfl hS) (hk3 hv1 hv2 hv3 (pI_add hv4 rfl) hS)) rfl)))
def g_X1_otherThing_3 : Nat → Nat → Int → Int → Int → MZ → Option (Int × MZ)
  | 0 => fun _ _ _ _ _ => none
  | n + 1 => g_X1_otherThing_3B (g_X1_otherThing_3 n)
theorem l_X1_otherThing_3 : ∀ (n : Nat) {x0 : Nat} {x1 : Int32} {x2 : Int32} {x3 : Int32} {x4 : Mem} {y0 : Nat} {y1 : Int} {y2 : Int} {y3 : Int} {y4 : MZ}, x0 = y0 → tI x1 = y1 → tI x2 = y2 → tI x3 = y3 → tz x4 = y4 → Lf tI (f_X1_otherThing_3 n x0 x1 x2 x3 x4) = g_X1_otherThing_3 n y0 y1 y2 y3 y4
  | 0, _, _, _, _, _, _, _, _, _, _, _, _, _, _, _ => rfl
  | n + 1, _, _, _, _, _, _, _, _, _, _, e0, e1, e2, e3, e4 => l_X1_otherThing_3B (fun de0 de1 de2 de3 de4 => l_X1_otherThing_3 n de0 de1 de2 de3 de4) e0 e1 e2 e3 e4
def g_X1_otherThing (p1 : Nat) (p2 : Int) (p3 : Int) (S : MZ) : Option (Int × MZ) := (g_X1_otherThing_3 100000 p1 p2 p3 0 S)
theorem l_X1_otherThing {p1 : Nat} {p1' : Nat} (hp1 : p1 = p1') {p2 : Int32} {p2' : Int} (hp2 : tI p2 = p2') {p3 : Int32} {p3' : Int} (hp3 : tI p3 = p3') {S : Mem} {S' : MZ} (hS : tz S = S') : Lf tI (f_X1_otherThing p1 p2 p3 S) = g_X1_otherThing p1' p2' p3' S' := by
  unfold f_X1_otherThing g_X1_otherThing
  exact (l_X1_otherThing_3 100000 hp1 hp2 hp3 rfl hS)
def g_X1_wasAt_34 (S : MZ) : Option (Int × MZ) := (some (0, S))
theorem l_X1_wasAt_34 {S : Mem} {S' : MZ} (hS : tz S = S') : Lf tI (f_X1_wasAt_34 S) = g_X1_wasAt_34 S' := by
  unfold f_X1_wasAt_34 g_X1_wasAt_34
  exact (Lf_some rfl hS)
def g_X1_wasAt_2B (k2 : Int → Int → Int → MZ → Option (Int × MZ)) (v1 : Int) (v2 : Int) (v3 : Int) (S : MZ) : Option (Int × MZ) := (if v1 < v3 then (g_X1_wasAt_34 S) else (if 3 ≤ v3 then (g_X1_wasAt_34 S) else (if (0 ≤ v3 ∧ v3 < ((3 : Nat) : Int)) then (if (zI S 17 (v3).toNat) = v2 then (some (1, S)) else (k2 v1 v2 (w32 (v3 + 1)) S)) else none)))
theorem l_X1_wasAt_2B {k2 : Int32 → Int32 → Int32 → Mem → Option (Int32 × Mem)} {k2' : Int → Int → Int → MZ → Option (Int × MZ)} (hk2 : ∀ {x0 : Int32} {x1 : Int32} {x2 : Int32} {x3 : Mem} {y0 : Int} {y1 : Int} {y2 : Int} {y3 : MZ}, tI x0 = y0 → tI x1 = y1 → tI x2 = y2 → tz x3 = y3 → Lf tI (k2 x0 x1 x2 x3) = k2' y0 y1 y2 y3) {v1 : Int32} {v1' : Int} (hv1 : tI v1 = v1') {v2 : Int32} {v2' : Int} (hv2 : tI v2 = v2') {v3 : Int32} {v3' : Int} (hv3 : tI v3 = v3') {S : Mem} {S' : MZ} (hS : tz S = S') : Lf tI (f_X1_wasAt_2B k2 v1 v2 v3 S) = g_X1_wasAt_2B k2' v1' v2' v3' S' := by
  unfold f_X1_wasAt_2B g_X1_wasAt_2B
  exact (Lf_if (cI_lt hv1 hv3) (l_X1_wasAt_34 hS) (Lf_if (cI_le rfl hv3) (l_X1_wasAt_34 hS) (Lf_if (c_inb hv3 rfl) (Lf_if (cI_eq (pI_g hS rfl (pN_of hv3)) hv2) (Lf_some rfl hS) (hk2 hv1 hv2 (pI_add hv3 rfl) hS)) rfl)))
def g_X1_wasAt_2 : Nat → Int → Int → Int → MZ → Option (Int × MZ)
  | 0 => fun _ _ _ _ => none
  | n + 1 => g_X1_wasAt_2B (g_X1_wasAt_2 n)
theorem l_X1_wasAt_2 : ∀ (n : Nat) {x0 : Int32} {x1 : Int32} {x2 : Int32} {x3 : Mem} {y0 : Int} {y1 : Int} {y2 : Int} {y3 : MZ}, tI x0 = y0 → tI x1 = y1 → tI x2 = y2 → tz x3 = y3 → Lf tI (f_X1_wasAt_2 n x0 x1 x2 x3) = g_X1_wasAt_2 n y0 y1 y2 y3
  | 0, _, _, _, _, _, _, _, _, _, _, _, _ => rfl
  | n + 1, _, _, _, _, _, _, _, _, e0, e1, e2, e3 => l_X1_wasAt_2B (fun de0 de1 de2 de3 => l_X1_wasAt_2 n de0 de1 de2 de3) e0 e1 e2 e3
def g_X1_wasAt (p1 : Int) (p2 : Int) (S : MZ) : Option (Int × MZ) := (g_X1_wasAt_2 100000 p1 p2 0 S)
theorem l_X1_wasAt {p1 : Int32} {p1' : Int} (hp1 : tI p1 = p1') {p2 : Int32} {p2' : Int} (hp2 : tI p2 = p2') {S : Mem} {S' : MZ} (hS : tz S = S') : Lf tI (f_X1_wasAt p1 p2 S) = g_X1_wasAt p1' p2' S' := by
  unfold f_X1_wasAt g_X1_wasAt
  exact (l_X1_wasAt_2 100000 hp1 hp2 rfl hS)
def g_X11_lastTick_10 (s0 : Int) (S : MZ) : Option (Int × MZ) := (some (s0, S))
theorem l_X11_lastTick_10 {s0 : Int32} {s0' : Int} (hs0 : tI s0 = s0') {S : Mem} {S' : MZ} (hS : tz S = S') : Lf tI (f_X11_lastTick_10 s0 S) = g_X11_lastTick_10 s0' S' := by
  unfold f_X11_lastTick_10 g_X11_lastTick_10
  exact (Lf_some hs0 hS)
def g_X11_lastTick (p0 : Int) (S : MZ) : Option (Int × MZ) := (if p0 = 0 then (g_X11_lastTick_10 0 S) else (g_X11_lastTick_10 40 S))
theorem l_X11_lastTick {p0 : Int32} {p0' : Int} (hp0 : tI p0 = p0') {S : Mem} {S' : MZ} (hS : tz S = S') : Lf tI (f_X11_lastTick p0 S) = g_X11_lastTick p0' S' := by
  unfold f_X11_lastTick g_X11_lastTick
  exact (Lf_if (cI_eq hp0 rfl) (l_X11_lastTick_10 rfl hS) (l_X11_lastTick_10 rfl hS))
def g_X11_isSide_14 (s0 : Int) (S : MZ) : Option (Int × MZ) := (if (s0 = 0 ∨ s0 = 1) then (some (s0, S)) else none)
theorem l_X11_isSide_14 {s0 : Int32} {s0' : Int} (hs0 : tI s0 = s0') {S : Mem} {S' : MZ} (hS : tz S = S') : Lf tI (f_X11_isSide_14 s0 S) = g_X11_isSide_14 s0' S' := by
  unfold f_X11_isSide_14 g_X11_isSide_14
  exact (Lf_if (c_isB hs0) (Lf_some hs0 hS) rfl)
def g_X11_isSide_9 (S : MZ) : Option (Int × MZ) := (g_X11_isSide_14 1 S)
theorem l_X11_isSide_9 {S : Mem} {S' : MZ} (hS : tz S = S') : Lf tI (f_X11_isSide_9 S) = g_X11_isSide_9 S' := by
  unfold f_X11_isSide_9 g_X11_isSide_9
  exact (l_X11_isSide_14 rfl hS)
def g_X11_isSide (p0 : Int) (S : MZ) : Option (Int × MZ) := (if p0 = 0 then (g_X11_isSide_9 S) else (if p0 = 1 then (g_X11_isSide_9 S) else (g_X11_isSide_14 0 S)))
theorem l_X11_isSide {p0 : Int32} {p0' : Int} (hp0 : tI p0 = p0') {S : Mem} {S' : MZ} (hS : tz S = S') : Lf tI (f_X11_isSide p0 S) = g_X11_isSide p0' S' := by
  unfold f_X11_isSide g_X11_isSide
  exact (Lf_if (cI_eq hp0 rfl) (l_X11_isSide_9 hS) (Lf_if (cI_eq hp0 rfl) (l_X11_isSide_9 hS) (l_X11_isSide_14 rfl hS)))
def g_X4_sumAt_43 (S : MZ) : Option (Int × MZ) := (some (0, S))
theorem l_X4_sumAt_43 {S : Mem} {S' : MZ} (hS : tz S = S') : Lf tI (f_X4_sumAt_43 S) = g_X4_sumAt_43 S' := by
  unfold f_X4_sumAt_43 g_X4_sumAt_43
  exact (Lf_some rfl hS)
def g_X4_sumAt_114 (v0 : Nat) (v1 : Int) (v2 : Int) (v3 : Int) (S : MZ) : Option (Int × MZ) := (if kd v0 = (3, 12) then (if (0 ≤ v2 ∧ v2 < ((8 : Nat) : Int)) then (if (0 ≤ v2 ∧ v2 < ((8 : Nat) : Int)) then (some ((w32 ((zI S (v0 + 4) (v2).toNat) + (w32 (v3 * (w32 (v1 - (zI S (v0 + 3) (v2).toNat))))))), S)) else none) else none) else none)
theorem l_X4_sumAt_114 {v0 : Nat} {v0' : Nat} (hv0 : v0 = v0') {v1 : Int32} {v1' : Int} (hv1 : tI v1 = v1') {v2 : Int32} {v2' : Int} (hv2 : tI v2 = v2') {v3 : Int32} {v3' : Int} (hv3 : tI v3 = v3') {S : Mem} {S' : MZ} (hS : tz S = S') : Lf tI (f_X4_sumAt_114 v0 v1 v2 v3 S) = g_X4_sumAt_114 v0' v1' v2' v3' S' := by
  unfold f_X4_sumAt_114 g_X4_sumAt_114
  exact (Lf_if (c_kd hv0) (Lf_if (c_inb hv2 rfl) (Lf_if (c_inb hv2 rfl) (Lf_some (pI_add (pI_g hS (pR_add hv0 rfl) (pN_of hv2)) (pI_mul hv3 (pI_sub hv1 (pI_g hS (pR_add hv0 rfl) (pN_of hv2))))) hS) rfl) rfl) rfl)
def g_X4_sumAt_113 (v0 : Nat) (v1 : Int) (v2 : Int) (s0 : Int) (S : MZ) : Option (Int × MZ) := (g_X4_sumAt_114 v0 v1 v2 s0 S)
theorem l_X4_sumAt_113 {v0 : Nat} {v0' : Nat} (hv0 : v0 = v0') {v1 : Int32} {v1' : Int} (hv1 : tI v1 = v1') {v2 : Int32} {v2' : Int} (hv2 : tI v2 = v2') {s0 : Int32} {s0' : Int} (hs0 : tI s0 = s0') {S : Mem} {S' : MZ} (hS : tz S = S') : Lf tI (f_X4_sumAt_113 v0 v1 v2 s0 S) = g_X4_sumAt_113 v0' v1' v2' s0' S' := by
  unfold f_X4_sumAt_113 g_X4_sumAt_113
  exact (l_X4_sumAt_114 hv0 hv1 hv2 hs0 hS)
def g_X4_sumAt_85 (v0 : Nat) (v1 : Int) (v2 : Int) (v4 : Int) (S : MZ) : Option (Int × MZ) := (if 1 ≤ v4 then (if kd v0 = (3, 12) then (if (0 ≤ (w32 (v2 + 1)) ∧ (w32 (v2 + 1)) < ((8 : Nat) : Int)) then (if (0 ≤ v2 ∧ v2 < ((8 : Nat) : Int)) then (if v4 = 0 then none else (g_X4_sumAt_113 v0 v1 v2 (w32 (Int.tdiv (w32 ((zI S (v0 + 4) ((w32 (v2 + 1))).toNat) - (zI S (v0 + 4) (v2).toNat))) v4)) S)) else none) else none) else none) else (g_X4_sumAt_113 v0 v1 v2 0 S))
theorem l_X4_sumAt_85 {v0 : Nat} {v0' : Nat} (hv0 : v0 = v0') {v1 : Int32} {v1' : Int} (hv1 : tI v1 = v1') {v2 : Int32} {v2' : Int} (hv2 : tI v2 = v2') {v4 : Int32} {v4' : Int} (hv4 : tI v4 = v4') {S : Mem} {S' : MZ} (hS : tz S = S') : Lf tI (f_X4_sumAt_85 v0 v1 v2 v4 S) = g_X4_sumAt_85 v0' v1' v2' v4' S' := by
  unfold f_X4_sumAt_85 g_X4_sumAt_85
  exact (Lf_if (cI_le rfl hv4) (Lf_if (c_kd hv0) (Lf_if (c_inb (pI_add hv2 rfl) rfl) (Lf_if (c_inb hv2 rfl) (Lf_if (cI_eq hv4 rfl) rfl (l_X4_sumAt_113 hv0 hv1 hv2 (pI_div (pI_sub (pI_g hS (pR_add hv0 rfl) (pN_of (pI_add hv2 rfl))) (pI_g hS (pR_add hv0 rfl) (pN_of hv2))) hv4) hS)) rfl) rfl) rfl) (l_X4_sumAt_113 hv0 hv1 hv2 rfl hS))
def g_X4_sumAt_50 (v0 : Nat) (v1 : Int) (v2 : Int) (v3 : Int) (S : MZ) : Option (Int × MZ) := (if kd v0 = (3, 12) then (if (zI S v0 7) ≤ (w32 (v2 + 1)) then (g_X4_sumAt_114 v0 v1 v2 v3 S) else (if 8 ≤ (w32 (v2 + 1)) then (g_X4_sumAt_114 v0 v1 v2 v3 S) else (if (0 ≤ (w32 (v2 + 1)) ∧ (w32 (v2 + 1)) < ((8 : Nat) : Int)) then (if (0 ≤ v2 ∧ v2 < ((8 : Nat) : Int)) then (g_X4_sumAt_85 v0 v1 v2 (w32 ((zI S (v0 + 3) ((w32 (v2 + 1))).toNat) - (zI S (v0 + 3) (v2).toNat))) S) else none) else none))) else none)
theorem l_X4_sumAt_50 {v0 : Nat} {v0' : Nat} (hv0 : v0 = v0') {v1 : Int32} {v1' : Int} (hv1 : tI v1 = v1') {v2 : Int32} {v2' : Int} (hv2 : tI v2 = v2') {v3 : Int32} {v3' : Int} (hv3 : tI v3 = v3') {S : Mem} {S' : MZ} (hS : tz S = S') : Lf tI (f_X4_sumAt_50 v0 v1 v2 v3 S) = g_X4_sumAt_50 v0' v1' v2' v3' S' := by
  unfold f_X4_sumAt_50 g_X4_sumAt_50
  exact (Lf_if (c_kd hv0) (Lf_if (cI_le (pI_g hS hv0 rfl) (pI_add hv2 rfl)) (l_X4_sumAt_114 hv0 hv1 hv2 hv3 hS) (Lf_if (cI_le rfl (pI_add hv2 rfl)) (l_X4_sumAt_114 hv0 hv1 hv2 hv3 hS) (Lf_if (c_inb (pI_add hv2 rfl) rfl) (Lf_if (c_inb hv2 rfl) (l_X4_sumAt_85 hv0 hv1 hv2 (pI_sub (pI_g hS (pR_add hv0 rfl) (pN_of (pI_add hv2 rfl))) (pI_g hS (pR_add hv0 rfl) (pN_of hv2))) hS) rfl) rfl))) rfl)
def g_X4_sumAt_33 (v0 : Nat) (v1 : Int) (v2 : Int) (S : MZ) : Option (Int × MZ) := (if v2 < 0 then (g_X4_sumAt_43 S) else (if v2 < 8 then (if kd v0 = (3, 12) then (g_X4_sumAt_50 v0 v1 v2 (zI S v0 6) S) else none) else (g_X4_sumAt_43 S)))
theorem l_X4_sumAt_33 {v0 : Nat} {v0' : Nat} (hv0 : v0 = v0') {v1 : Int32} {v1' : Int} (hv1 : tI v1 = v1') {v2 : Int32} {v2' : Int} (hv2 : tI v2 = v2') {S : Mem} {S' : MZ} (hS : tz S = S') : Lf tI (f_X4_sumAt_33 v0 v1 v2 S) = g_X4_sumAt_33 v0' v1' v2' S' := by
  unfold f_X4_sumAt_33 g_X4_sumAt_33
  exact (Lf_if (cI_lt hv2 rfl) (l_X4_sumAt_43 hS) (Lf_if (cI_lt hv2 rfl) (Lf_if (c_kd hv0) (l_X4_sumAt_50 hv0 hv1 hv2 (pI_g hS hv0 rfl) hS) rfl) (l_X4_sumAt_43 hS)))
def g_X4_sumAt_7B (k7 : Nat → Int → Int → MZ → Option (Int × MZ)) (v0 : Nat) (v1 : Int) (v2 : Int) (S : MZ) : Option (Int × MZ) := (if v2 ≤ 0 then (g_X4_sumAt_33 v0 v1 v2 S) else (if 8 ≤ v2 then (g_X4_sumAt_33 v0 v1 v2 S) else (if kd v0 = (3, 12) then (if (0 ≤ v2 ∧ v2 < ((8 : Nat) : Int)) then (if (zI S (v0 + 3) (v2).toNat) ≤ v1 then (g_X4_sumAt_33 v0 v1 v2 S) else (k7 v0 v1 (w32 (v2 + (-1))) S)) else none) else none)))
theorem l_X4_sumAt_7B {k7 : Nat → Int32 → Int32 → Mem → Option (Int32 × Mem)} {k7' : Nat → Int → Int → MZ → Option (Int × MZ)} (hk7 : ∀ {x0 : Nat} {x1 : Int32} {x2 : Int32} {x3 : Mem} {y0 : Nat} {y1 : Int} {y2 : Int} {y3 : MZ}, x0 = y0 → tI x1 = y1 → tI x2 = y2 → tz x3 = y3 → Lf tI (k7 x0 x1 x2 x3) = k7' y0 y1 y2 y3) {v0 : Nat} {v0' : Nat} (hv0 : v0 = v0') {v1 : Int32} {v1' : Int} (hv1 : tI v1 = v1') {v2 : Int32} {v2' : Int} (hv2 : tI v2 = v2') {S : Mem} {S' : MZ} (hS : tz S = S') : Lf tI (f_X4_sumAt_7B k7 v0 v1 v2 S) = g_X4_sumAt_7B k7' v0' v1' v2' S' := by
  unfold f_X4_sumAt_7B g_X4_sumAt_7B
  exact (Lf_if (cI_le hv2 rfl) (l_X4_sumAt_33 hv0 hv1 hv2 hS) (Lf_if (cI_le rfl hv2) (l_X4_sumAt_33 hv0 hv1 hv2 hS) (Lf_if (c_kd hv0) (Lf_if (c_inb hv2 rfl) (Lf_if (cI_le (pI_g hS (pR_add hv0 rfl) (pN_of hv2)) hv1) (l_X4_sumAt_33 hv0 hv1 hv2 hS) (hk7 hv0 hv1 (pI_add hv2 rfl) hS)) rfl) rfl)))
def g_X4_sumAt_7 : Nat → Nat → Int → Int → MZ → Option (Int × MZ)
  | 0 => fun _ _ _ _ => none
  | n + 1 => g_X4_sumAt_7B (g_X4_sumAt_7 n)
theorem l_X4_sumAt_7 : ∀ (n : Nat) {x0 : Nat} {x1 : Int32} {x2 : Int32} {x3 : Mem} {y0 : Nat} {y1 : Int} {y2 : Int} {y3 : MZ}, x0 = y0 → tI x1 = y1 → tI x2 = y2 → tz x3 = y3 → Lf tI (f_X4_sumAt_7 n x0 x1 x2 x3) = g_X4_sumAt_7 n y0 y1 y2 y3
  | 0, _, _, _, _, _, _, _, _, _, _, _, _ => rfl
  | n + 1, _, _, _, _, _, _, _, _, e0, e1, e2, e3 => l_X4_sumAt_7B (fun de0 de1 de2 de3 => l_X4_sumAt_7 n de0 de1 de2 de3) e0 e1 e2 e3
def g_X4_sumAt (h0 : Nat) (p1 : Int) (S : MZ) : Option (Int × MZ) := (if kd h0 = (3, 12) then (g_X4_sumAt_7 100000 h0 p1 (w32 ((zI S h0 7) - 1)) S) else none)
theorem l_X4_sumAt {h0 : Nat} {h0' : Nat} (hh0 : h0 = h0') {p1 : Int32} {p1' : Int} (hp1 : tI p1 = p1') {S : Mem} {S' : MZ} (hS : tz S = S') : Lf tI (f_X4_sumAt h0 p1 S) = g_X4_sumAt h0' p1' S' := by
  unfold f_X4_sumAt g_X4_sumAt
  exact (Lf_if (c_kd hh0) (l_X4_sumAt_7 100000 hh0 hp1 (pI_sub (pI_g hS hh0 rfl) rfl) hS) rfl)
def g_X4_mark_116 (S : MZ) : Option (Unit × MZ) := (some ((), S))
theorem l_X4_mark_116 {S : Mem} {S' : MZ} (hS : tz S = S') : Lf tU (f_X4_mark_116 S) = g_X4_mark_116 S' := by
  unfold f_X4_mark_116 g_X4_mark_116
  exact (Lf_some rfl hS)
def g_X4_mark_79 (v0 : Nat) (v1 : Int) (v3 : Int) (S : MZ) : Option (Unit × MZ) := (if kd v0 = (3, 12) then (if (zI S v0 7) < 0 then (g_X4_mark_116 S) else (if (0 ≤ (zI S v0 7) ∧ (zI S v0 7) < ((8 : Nat) : Int)) then (if (0 ≤ (zI (uI S (v0 + 3) ((zI S v0 7)).toNat v1) v0 7) ∧ (zI (uI S (v0 + 3) ((zI S v0 7)).toNat v1) v0 7) < ((8 : Nat) : Int)) then (g_X4_mark_116 (uI (uI (uI S (v0 + 3) ((zI S v0 7)).toNat v1) (v0 + 4) ((zI (uI S (v0 + 3) ((zI S v0 7)).toNat v1) v0 7)).toNat v3) v0 7 (w32 ((zI (uI (uI S (v0 + 3) ((zI S v0 7)).toNat v1) (v0 + 4) ((zI (uI S (v0 + 3) ((zI S v0 7)).toNat v1) v0 7)).toNat v3) v0 7) + 1)))) else none) else none)) else none)
theorem l_X4_mark_79 {v0 : Nat} {v0' : Nat} (hv0 : v0 = v0') {v1 : Int32} {v1' : Int} (hv1 : tI v1 = v1') {v3 : Int32} {v3' : Int} (hv3 : tI v3 = v3') {S : Mem} {S' : MZ} (hS : tz S = S') : Lf tU (f_X4_mark_79 v0 v1 v3 S) = g_X4_mark_79 v0' v1' v3' S' := by
  unfold f_X4_mark_79 g_X4_mark_79
  exact (Lf_if (c_kd hv0) (Lf_if (cI_lt (pI_g hS hv0 rfl) rfl) (l_X4_mark_116 hS) (Lf_if (c_inb (pI_g hS hv0 rfl) rfl) (Lf_if (c_inb (pI_g (pM_I hS (pR_add hv0 rfl) (pN_of (pI_g hS hv0 rfl)) hv1) hv0 rfl) rfl) (l_X4_mark_116 (pM_I (pM_I (pM_I hS (pR_add hv0 rfl) (pN_of (pI_g hS hv0 rfl)) hv1) (pR_add hv0 rfl) (pN_of (pI_g (pM_I hS (pR_add hv0 rfl) (pN_of (pI_g hS hv0 rfl)) hv1) hv0 rfl)) hv3) hv0 rfl (pI_add (pI_g (pM_I (pM_I hS (pR_add hv0 rfl) (pN_of (pI_g hS hv0 rfl)) hv1) (pR_add hv0 rfl) (pN_of (pI_g (pM_I hS (pR_add hv0 rfl) (pN_of (pI_g hS hv0 rfl)) hv1) hv0 rfl)) hv3) hv0 rfl) rfl))) rfl) rfl)) rfl)
def g_X4_mark_28 (v0 : Nat) (v1 : Int) (S : MZ) : Option (Unit × MZ) := (if kd v0 = (3, 12) then ((g_X4_sumAt v0 v1 S).bind fun q30 => (if (zI q30.2 v0 7) < 8 then (g_X4_mark_79 v0 v1 q30.1 q30.2) else (g_X4_mark_79 v0 v1 q30.1 (uI (zcp (zcp q30.2 (v0 + 3) 1 (v0 + 3) 0 7) (v0 + 4) 1 (v0 + 4) 0 7) v0 7 7)))) else none)
theorem l_X4_mark_28 {v0 : Nat} {v0' : Nat} (hv0 : v0 = v0') {v1 : Int32} {v1' : Int} (hv1 : tI v1 = v1') {S : Mem} {S' : MZ} (hS : tz S = S') : Lf tU (f_X4_mark_28 v0 v1 S) = g_X4_mark_28 v0' v1' S' := by
  unfold f_X4_mark_28 g_X4_mark_28
  exact (Lf_if (c_kd hv0) (Lf_bind (l_X4_sumAt hv0 hv1 hS) (fun q30 => (Lf_if (cI_lt (pI_g rfl hv0 rfl) rfl) (l_X4_mark_79 hv0 hv1 rfl rfl) (l_X4_mark_79 hv0 hv1 rfl (pM_I (pM_cp (pM_cp rfl (pR_add hv0 rfl) (pN_of (a' := 1) rfl) (pR_add hv0 rfl) (pN_of (a' := 0) rfl) (pN_of (a' := 7) rfl)) (pR_add hv0 rfl) (pN_of (a' := 1) rfl) (pR_add hv0 rfl) (pN_of (a' := 0) rfl) (pN_of (a' := 7) rfl)) hv0 rfl rfl))))) rfl)
def g_X4_mark_7 (v0 : Nat) (v1 : Int) (v2 : Int) (S : MZ) : Option (Unit × MZ) := (if v2 < 0 then (g_X4_mark_28 v0 v1 S) else (if 8 ≤ v2 then (g_X4_mark_28 v0 v1 S) else (if kd v0 = (3, 12) then (if (0 ≤ v2 ∧ v2 < ((8 : Nat) : Int)) then (if (zI S (v0 + 3) (v2).toNat) = v1 then (some ((), S)) else (g_X4_mark_28 v0 v1 S)) else none) else none)))
theorem l_X4_mark_7 {v0 : Nat} {v0' : Nat} (hv0 : v0 = v0') {v1 : Int32} {v1' : Int} (hv1 : tI v1 = v1') {v2 : Int32} {v2' : Int} (hv2 : tI v2 = v2') {S : Mem} {S' : MZ} (hS : tz S = S') : Lf tU (f_X4_mark_7 v0 v1 v2 S) = g_X4_mark_7 v0' v1' v2' S' := by
  unfold f_X4_mark_7 g_X4_mark_7
  exact (Lf_if (cI_lt hv2 rfl) (l_X4_mark_28 hv0 hv1 hS) (Lf_if (cI_le rfl hv2) (l_X4_mark_28 hv0 hv1 hS) (Lf_if (c_kd hv0) (Lf_if (c_inb hv2 rfl) (Lf_if (cI_eq (pI_g hS (pR_add hv0 rfl) (pN_of hv2)) hv1) (Lf_some rfl hS) (l_X4_mark_28 hv0 hv1 hS)) rfl) rfl)))
def g_X4_mark (h0 : Nat) (p1 : Int) (S : MZ) : Option (Unit × MZ) := (if kd h0 = (3, 12) then (g_X4_mark_7 h0 p1 (w32 ((zI S h0 7) - 1)) S) else none)
theorem l_X4_mark {h0 : Nat} {h0' : Nat} (hh0 : h0 = h0') {p1 : Int32} {p1' : Int} (hp1 : tI p1 = p1') {S : Mem} {S' : MZ} (hS : tz S = S') : Lf tU (f_X4_mark h0 p1 S) = g_X4_mark h0' p1' S' := by
  unfold f_X4_mark g_X4_mark
  exact (Lf_if (c_kd hh0) (l_X4_mark_7 hh0 hp1 (pI_sub (pI_g hS hh0 rfl) rfl) hS) rfl)
def g_X10_start_78 (S : MZ) : Option (Int × MZ) := (some (0, S))
theorem l_X10_start_78 {S : Mem} {S' : MZ} (hS : tz S = S') : Lf tI (f_X10_start_78 S) = g_X10_start_78 S' := by
  unfold f_X10_start_78 g_X10_start_78
  exact (Lf_some rfl hS)
def g_X10_start_120 (S : MZ) : Option (Int × MZ) := (some (1, S))
theorem l_X10_start_120 {S : Mem} {S' : MZ} (hS : tz S = S') : Lf tI (f_X10_start_120 S) = g_X10_start_120 S' := by
  unfold f_X10_start_120 g_X10_start_120
  exact (Lf_some rfl hS)
def g_X10_start_56 (v1 : Nat) (S : MZ) : Option (Int × MZ) := (if (zR (uL S 4 13 0) 4 1) = 0 then (g_X10_start_78 (uL S 4 13 0)) else ((g_X11_isSide (zI (uL S 4 13 0) 4 3) (uL S 4 13 0)).bind fun q72 => (if q72.1 = 0 then (g_X10_start_78 q72.2) else (if kd (zR q72.2 4 1) = (3, 12) then (if kd (zR (uI q72.2 4 5 (zI q72.2 (zR q72.2 4 1) 5)) 4 1) = (3, 12) then (if (zI (uI (uI q72.2 4 5 (zI q72.2 (zR q72.2 4 1) 5)) 4 8 (zI (uI q72.2 4 5 (zI q72.2 (zR q72.2 4 1) 5)) (zR (uI q72.2 4 5 (zI q72.2 (zR q72.2 4 1) 5)) 4 1) 6)) 4 4) = 0 then (g_X10_start_120 (uI (uI q72.2 4 5 (zI q72.2 (zR q72.2 4 1) 5)) 4 8 (zI (uI q72.2 4 5 (zI q72.2 (zR q72.2 4 1) 5)) (zR (uI q72.2 4 5 (zI q72.2 (zR q72.2 4 1) 5)) 4 1) 6))) else (if kd v1 = (1, 9) then (if kd (zR (uI (uI q72.2 4 5 (zI q72.2 (zR q72.2 4 1) 5)) 4 8 (zI (uI q72.2 4 5 (zI q72.2 (zR q72.2 4 1) 5)) (zR (uI q72.2 4 5 (zI q72.2 (zR q72.2 4 1) 5)) 4 1) 6)) 4 1) = (3, 12) then ((g_X4_mark (zR (uI (uI q72.2 4 5 (zI q72.2 (zR q72.2 4 1) 5)) 4 8 (zI (uI q72.2 4 5 (zI q72.2 (zR q72.2 4 1) 5)) (zR (uI q72.2 4 5 (zI q72.2 (zR q72.2 4 1) 5)) 4 1) 6)) 4 1) (zI (uI (uI q72.2 4 5 (zI q72.2 (zR q72.2 4 1) 5)) 4 8 (zI (uI q72.2 4 5 (zI q72.2 (zR q72.2 4 1) 5)) (zR (uI q72.2 4 5 (zI q72.2 (zR q72.2 4 1) 5)) 4 1) 6)) v1 4) (uI (uI q72.2 4 5 (zI q72.2 (zR q72.2 4 1) 5)) 4 8 (zI (uI q72.2 4 5 (zI q72.2 (zR q72.2 4 1) 5)) (zR (uI q72.2 4 5 (zI q72.2 (zR q72.2 4 1) 5)) 4 1) 6))).bind fun q117 => (g_X10_start_120 q117.2)) else none) else none)) else none) else none))))
theorem l_X10_start_56 {v1 : Nat} {v1' : Nat} (hv1 : v1 = v1') {S : Mem} {S' : MZ} (hS : tz S = S') : Lf tI (f_X10_start_56 v1 S) = g_X10_start_56 v1' S' := by
  unfold f_X10_start_56 g_X10_start_56
  exact (Lf_if (cR_eq (pR_g (pM_L hS rfl rfl rfl) rfl rfl) rfl) (l_X10_start_78 (pM_L hS rfl rfl rfl)) (Lf_bind (l_X11_isSide (pI_g (pM_L hS rfl rfl rfl) rfl rfl) (pM_L hS rfl rfl rfl)) (fun q72 => (Lf_if (cI_eq rfl rfl) (l_X10_start_78 rfl) (Lf_if (c_kd (pR_g rfl rfl rfl)) (Lf_if (c_kd (pR_g (pM_I rfl rfl rfl (pI_g rfl (pR_g rfl rfl rfl) rfl)) rfl rfl)) (Lf_if (cI_eq (pI_g (pM_I (pM_I rfl rfl rfl (pI_g rfl (pR_g rfl rfl rfl) rfl)) rfl rfl (pI_g (pM_I rfl rfl rfl (pI_g rfl (pR_g rfl rfl rfl) rfl)) (pR_g (pM_I rfl rfl rfl (pI_g rfl (pR_g rfl rfl rfl) rfl)) rfl rfl) rfl)) rfl rfl) rfl) (l_X10_start_120 (pM_I (pM_I rfl rfl rfl (pI_g rfl (pR_g rfl rfl rfl) rfl)) rfl rfl (pI_g (pM_I rfl rfl rfl (pI_g rfl (pR_g rfl rfl rfl) rfl)) (pR_g (pM_I rfl rfl rfl (pI_g rfl (pR_g rfl rfl rfl) rfl)) rfl rfl) rfl))) (Lf_if (c_kd hv1) (Lf_if (c_kd (pR_g (pM_I (pM_I rfl rfl rfl (pI_g rfl (pR_g rfl rfl rfl) rfl)) rfl rfl (pI_g (pM_I rfl rfl rfl (pI_g rfl (pR_g rfl rfl rfl) rfl)) (pR_g (pM_I rfl rfl rfl (pI_g rfl (pR_g rfl rfl rfl) rfl)) rfl rfl) rfl)) rfl rfl)) (Lf_bind (l_X4_mark (pR_g (pM_I (pM_I rfl rfl rfl (pI_g rfl (pR_g rfl rfl rfl) rfl)) rfl rfl (pI_g (pM_I rfl rfl rfl (pI_g rfl (pR_g rfl rfl rfl) rfl)) (pR_g (pM_I rfl rfl rfl (pI_g rfl (pR_g rfl rfl rfl) rfl)) rfl rfl) rfl)) rfl rfl) (pI_g (pM_I (pM_I rfl rfl rfl (pI_g rfl (pR_g rfl rfl rfl) rfl)) rfl rfl (pI_g (pM_I rfl rfl rfl (pI_g rfl (pR_g rfl rfl rfl) rfl)) (pR_g (pM_I rfl rfl rfl (pI_g rfl (pR_g rfl rfl rfl) rfl)) rfl rfl) rfl)) hv1 rfl) (pM_I (pM_I rfl rfl rfl (pI_g rfl (pR_g rfl rfl rfl) rfl)) rfl rfl (pI_g (pM_I rfl rfl rfl (pI_g rfl (pR_g rfl rfl rfl) rfl)) (pR_g (pM_I rfl rfl rfl (pI_g rfl (pR_g rfl rfl rfl) rfl)) rfl rfl) rfl))) (fun q117 => (l_X10_start_120 rfl))) rfl) rfl)) rfl) rfl)))))
def g_X10_start_40 (v1 : Nat) (v4 : Int) (S : MZ) : Option (Int × MZ) := (g_X10_start_56 v1 (uL (uL (uL S 4 10 v4) 4 11 0) 4 12 0))
theorem l_X10_start_40 {v1 : Nat} {v1' : Nat} (hv1 : v1 = v1') {v4 : Int64} {v4' : Int} (hv4 : tJ v4 = v4') {S : Mem} {S' : MZ} (hS : tz S = S') : Lf tI (f_X10_start_40 v1 v4 S) = g_X10_start_40 v1' v4' S' := by
  unfold f_X10_start_40 g_X10_start_40
  exact (l_X10_start_56 hv1 (pM_L (pM_L (pM_L hS rfl rfl hv4) rfl rfl rfl) rfl rfl rfl))
def g_X10_start_24 (v1 : Nat) (v4 : Int) (v6 : Int) (S : MZ) : Option (Int × MZ) := (if (v6 = 0 ∨ v6 = 1) then (g_X10_start_40 v1 v4 (uI (uI (uI S 4 4 v6) 4 6 0) 4 9 0)) else none)
theorem l_X10_start_24 {v1 : Nat} {v1' : Nat} (hv1 : v1 = v1') {v4 : Int64} {v4' : Int} (hv4 : tJ v4 = v4') {v6 : Int32} {v6' : Int} (hv6 : tI v6 = v6') {S : Mem} {S' : MZ} (hS : tz S = S') : Lf tI (f_X10_start_24 v1 v4 v6 S) = g_X10_start_24 v1' v4' v6' S' := by
  unfold f_X10_start_24 g_X10_start_24
  exact (Lf_if (c_isB hv6) (l_X10_start_40 hv1 hv4 (pM_I (pM_I (pM_I hS rfl rfl hv6) rfl rfl rfl) rfl rfl rfl)) rfl)
def g_X10_start (p1 : Nat) (p2 : Int) (p3 : Int) (p4 : Int) (p6 : Int) (S : MZ) : Option (Int × MZ) := (if kd p1 = (1, 9) then ((g_X2_poolAt p1 p2 (uR S 4 0 p1)).bind fun q8 => (g_X10_start_24 p1 p4 p6 (uI (uI (uR q8.2 4 1 q8.1) 4 2 p2) 4 3 p3))) else none)
theorem l_X10_start {p1 : Nat} {p1' : Nat} (hp1 : p1 = p1') {p2 : Int32} {p2' : Int} (hp2 : tI p2 = p2') {p3 : Int32} {p3' : Int} (hp3 : tI p3 = p3') {p4 : Int64} {p4' : Int} (hp4 : tJ p4 = p4') {p6 : Int32} {p6' : Int} (hp6 : tI p6 = p6') {S : Mem} {S' : MZ} (hS : tz S = S') : Lf tI (f_X10_start p1 p2 p3 p4 p6 S) = g_X10_start p1' p2' p3' p4' p6' S' := by
  unfold f_X10_start g_X10_start
  exact (Lf_if (c_kd hp1) (Lf_bind (l_X2_poolAt hp1 hp2 (pM_R hS rfl rfl hp1)) (fun q8 => (l_X10_start_24 hp1 hp4 hp6 (pM_I (pM_I (pM_R rfl rfl rfl rfl) rfl rfl hp2) rfl rfl hp3)))) rfl)
def g_X2_nearer_19 (s0 : Int) (S : MZ) : Option (Int × MZ) := (some (s0, S))
theorem l_X2_nearer_19 {s0 : Int32} {s0' : Int} (hs0 : tI s0 = s0') {S : Mem} {S' : MZ} (hS : tz S = S') : Lf tI (f_X2_nearer_19 s0 S) = g_X2_nearer_19 s0' S' := by
  unfold f_X2_nearer_19 g_X2_nearer_19
  exact (Lf_some hs0 hS)
def g_X2_nearer_18 (v0 : Int) (S : MZ) : Option (Int × MZ) := (g_X2_nearer_19 v0 S)
theorem l_X2_nearer_18 {v0 : Int32} {v0' : Int} (hv0 : tI v0 = v0') {S : Mem} {S' : MZ} (hS : tz S = S') : Lf tI (f_X2_nearer_18 v0 S) = g_X2_nearer_18 v0' S' := by
  unfold f_X2_nearer_18 g_X2_nearer_18
  exact (l_X2_nearer_19 hv0 hS)
def g_X2_nearer_40 (s0 : Int) (S : MZ) : Option (Int × MZ) := (some (s0, S))
theorem l_X2_nearer_40 {s0 : Int32} {s0' : Int} (hs0 : tI s0 = s0') {S : Mem} {S' : MZ} (hS : tz S = S') : Lf tI (f_X2_nearer_40 s0 S) = g_X2_nearer_40 s0' S' := by
  unfold f_X2_nearer_40 g_X2_nearer_40
  exact (Lf_some hs0 hS)
def g_X2_nearer_35 (v1 : Int) (S : MZ) : Option (Int × MZ) := (g_X2_nearer_40 v1 S)
theorem l_X2_nearer_35 {v1 : Int32} {v1' : Int} (hv1 : tI v1 = v1') {S : Mem} {S' : MZ} (hS : tz S = S') : Lf tI (f_X2_nearer_35 v1 S) = g_X2_nearer_35 v1' S' := by
  unfold f_X2_nearer_35 g_X2_nearer_35
  exact (l_X2_nearer_40 hv1 hS)
def g_X2_nearer_39 (v0 : Int) (S : MZ) : Option (Int × MZ) := (g_X2_nearer_40 v0 S)
theorem l_X2_nearer_39 {v0 : Int32} {v0' : Int} (hv0 : tI v0 = v0') {S : Mem} {S' : MZ} (hS : tz S = S') : Lf tI (f_X2_nearer_39 v0 S) = g_X2_nearer_39 v0' S' := by
  unfold f_X2_nearer_39 g_X2_nearer_39
  exact (l_X2_nearer_40 hv0 hS)
def g_X2_nearer (p0 : Int) (p1 : Int) (p2 : Int) (p3 : Int) (S : MZ) : Option (Int × MZ) := (if p3 = 0 then (if p2 < p1 then (g_X2_nearer_18 p0 S) else (if p1 ≤ p0 then (g_X2_nearer_18 p0 S) else (g_X2_nearer_19 p1 S))) else (if p1 ≤ p2 then (g_X2_nearer_39 p0 S) else (if p0 = (-1) then (g_X2_nearer_35 p1 S) else (if p0 ≤ p1 then (g_X2_nearer_39 p0 S) else (g_X2_nearer_35 p1 S)))))
theorem l_X2_nearer {p0 : Int32} {p0' : Int} (hp0 : tI p0 = p0') {p1 : Int32} {p1' : Int} (hp1 : tI p1 = p1') {p2 : Int32} {p2' : Int} (hp2 : tI p2 = p2') {p3 : Int32} {p3' : Int} (hp3 : tI p3 = p3') {S : Mem} {S' : MZ} (hS : tz S = S') : Lf tI (f_X2_nearer p0 p1 p2 p3 S) = g_X2_nearer p0' p1' p2' p3' S' := by
  unfold f_X2_nearer g_X2_nearer
  exact (Lf_if (cI_eq hp3 rfl) (Lf_if (cI_lt hp2 hp1) (l_X2_nearer_18 hp0 hS) (Lf_if (cI_le hp1 hp0) (l_X2_nearer_18 hp0 hS) (l_X2_nearer_19 hp1 hS))) (Lf_if (cI_le hp1 hp2) (l_X2_nearer_39 hp0 hS) (Lf_if (cI_eq hp0 rfl) (l_X2_nearer_35 hp1 hS) (Lf_if (cI_le hp0 hp1) (l_X2_nearer_39 hp0 hS) (l_X2_nearer_35 hp1 hS)))))
def g_X2_nextEdge_71 (k6 : Nat → Int → Int → Int → Int → Int → MZ → Option (Int × MZ)) (v0 : Nat) (v1 : Int) (v2 : Int) (v3 : Int) (v4 : Int) (v5 : Int) (S : MZ) : Option (Int × MZ) := (k6 v0 v1 v2 v3 v4 (w32 (v5 + 1)) S)
theorem l_X2_nextEdge_71 {k6 : Nat → Int32 → Int32 → Int32 → Int32 → Int32 → Mem → Option (Int32 × Mem)} {k6' : Nat → Int → Int → Int → Int → Int → MZ → Option (Int × MZ)} (hk6 : ∀ {x0 : Nat} {x1 : Int32} {x2 : Int32} {x3 : Int32} {x4 : Int32} {x5 : Int32} {x6 : Mem} {y0 : Nat} {y1 : Int} {y2 : Int} {y3 : Int} {y4 : Int} {y5 : Int} {y6 : MZ}, x0 = y0 → tI x1 = y1 → tI x2 = y2 → tI x3 = y3 → tI x4 = y4 → tI x5 = y5 → tz x6 = y6 → Lf tI (k6 x0 x1 x2 x3 x4 x5 x6) = k6' y0 y1 y2 y3 y4 y5 y6) {v0 : Nat} {v0' : Nat} (hv0 : v0 = v0') {v1 : Int32} {v1' : Int} (hv1 : tI v1 = v1') {v2 : Int32} {v2' : Int} (hv2 : tI v2 = v2') {v3 : Int32} {v3' : Int} (hv3 : tI v3 = v3') {v4 : Int32} {v4' : Int} (hv4 : tI v4 = v4') {v5 : Int32} {v5' : Int} (hv5 : tI v5 = v5') {S : Mem} {S' : MZ} (hS : tz S = S') : Lf tI (f_X2_nextEdge_71 k6 v0 v1 v2 v3 v4 v5 S) = g_X2_nextEdge_71 k6' v0' v1' v2' v3' v4' v5' S' := by
  unfold f_X2_nextEdge_71 g_X2_nextEdge_71
  exact (hk6 hv0 hv1 hv2 hv3 hv4 (pI_add hv5 rfl) hS)
def g_X2_nextEdge_34 (k6 : Nat → Int → Int → Int → Int → Int → MZ → Option (Int × MZ)) (v0 : Nat) (v1 : Int) (v2 : Int) (v3 : Int) (v4 : Int) (v5 : Int) (v6 : Nat) (S : MZ) : Option (Int × MZ) := (if kd v6 = (6, 8) then (if (zI S v6 1) = v1 then ((g_X2_nearer v4 (zI S v6 2) v2 v3 S).bind fun q52 => ((g_X2_nearer q52.1 (zI q52.2 v6 3) v2 v3 q52.2).bind fun q66 => (g_X2_nextEdge_71 k6 v0 v1 v2 v3 q66.1 v5 q66.2))) else (g_X2_nextEdge_71 k6 v0 v1 v2 v3 v4 v5 S)) else none)
theorem l_X2_nextEdge_34 {k6 : Nat → Int32 → Int32 → Int32 → Int32 → Int32 → Mem → Option (Int32 × Mem)} {k6' : Nat → Int → Int → Int → Int → Int → MZ → Option (Int × MZ)} (hk6 : ∀ {x0 : Nat} {x1 : Int32} {x2 : Int32} {x3 : Int32} {x4 : Int32} {x5 : Int32} {x6 : Mem} {y0 : Nat} {y1 : Int} {y2 : Int} {y3 : Int} {y4 : Int} {y5 : Int} {y6 : MZ}, x0 = y0 → tI x1 = y1 → tI x2 = y2 → tI x3 = y3 → tI x4 = y4 → tI x5 = y5 → tz x6 = y6 → Lf tI (k6 x0 x1 x2 x3 x4 x5 x6) = k6' y0 y1 y2 y3 y4 y5 y6) {v0 : Nat} {v0' : Nat} (hv0 : v0 = v0') {v1 : Int32} {v1' : Int} (hv1 : tI v1 = v1') {v2 : Int32} {v2' : Int} (hv2 : tI v2 = v2') {v3 : Int32} {v3' : Int} (hv3 : tI v3 = v3') {v4 : Int32} {v4' : Int} (hv4 : tI v4 = v4') {v5 : Int32} {v5' : Int} (hv5 : tI v5 = v5') {v6 : Nat} {v6' : Nat} (hv6 : v6 = v6') {S : Mem} {S' : MZ} (hS : tz S = S') : Lf tI (f_X2_nextEdge_34 k6 v0 v1 v2 v3 v4 v5 v6 S) = g_X2_nextEdge_34 k6' v0' v1' v2' v3' v4' v5' v6' S' := by
  unfold f_X2_nextEdge_34 g_X2_nextEdge_34
  exact (Lf_if (c_kd hv6) (Lf_if (cI_eq (pI_g hS hv6 rfl) hv1) (Lf_bind (l_X2_nearer hv4 (pI_g hS hv6 rfl) hv2 hv3 hS) (fun q52 => (Lf_bind (l_X2_nearer rfl (pI_g rfl hv6 rfl) hv2 hv3 rfl) (fun q66 => (l_X2_nextEdge_71 hk6 hv0 hv1 hv2 hv3 rfl hv5 rfl))))) (l_X2_nextEdge_71 hk6 hv0 hv1 hv2 hv3 hv4 hv5 hS)) rfl)
def g_X2_nextEdge_77 (v4 : Int) (S : MZ) : Option (Int × MZ) := (some (v4, S))
theorem l_X2_nextEdge_77 {v4 : Int32} {v4' : Int} (hv4 : tI v4 = v4') {S : Mem} {S' : MZ} (hS : tz S = S') : Lf tI (f_X2_nextEdge_77 v4 S) = g_X2_nextEdge_77 v4' S' := by
  unfold f_X2_nextEdge_77 g_X2_nextEdge_77
  exact (Lf_some hv4 hS)
def g_X2_nextEdge_6B (k6 : Nat → Int → Int → Int → Int → Int → MZ → Option (Int × MZ)) (v0 : Nat) (v1 : Int) (v2 : Int) (v3 : Int) (v4 : Int) (v5 : Int) (S : MZ) : Option (Int × MZ) := (if kd v0 = (1, 9) then (if (zI S v0 3) ≤ v5 then (g_X2_nextEdge_77 v4 S) else (if 12 ≤ v5 then (g_X2_nextEdge_77 v4 S) else (if (0 ≤ v5 ∧ v5 < ((12 : Nat) : Int)) then (g_X2_nextEdge_34 k6 v0 v1 v2 v3 v4 v5 (zR S (v0 + 3) (v5).toNat) S) else none))) else none)
theorem l_X2_nextEdge_6B {k6 : Nat → Int32 → Int32 → Int32 → Int32 → Int32 → Mem → Option (Int32 × Mem)} {k6' : Nat → Int → Int → Int → Int → Int → MZ → Option (Int × MZ)} (hk6 : ∀ {x0 : Nat} {x1 : Int32} {x2 : Int32} {x3 : Int32} {x4 : Int32} {x5 : Int32} {x6 : Mem} {y0 : Nat} {y1 : Int} {y2 : Int} {y3 : Int} {y4 : Int} {y5 : Int} {y6 : MZ}, x0 = y0 → tI x1 = y1 → tI x2 = y2 → tI x3 = y3 → tI x4 = y4 → tI x5 = y5 → tz x6 = y6 → Lf tI (k6 x0 x1 x2 x3 x4 x5 x6) = k6' y0 y1 y2 y3 y4 y5 y6) {v0 : Nat} {v0' : Nat} (hv0 : v0 = v0') {v1 : Int32} {v1' : Int} (hv1 : tI v1 = v1') {v2 : Int32} {v2' : Int} (hv2 : tI v2 = v2') {v3 : Int32} {v3' : Int} (hv3 : tI v3 = v3') {v4 : Int32} {v4' : Int} (hv4 : tI v4 = v4') {v5 : Int32} {v5' : Int} (hv5 : tI v5 = v5') {S : Mem} {S' : MZ} (hS : tz S = S') : Lf tI (f_X2_nextEdge_6B k6 v0 v1 v2 v3 v4 v5 S) = g_X2_nextEdge_6B k6' v0' v1' v2' v3' v4' v5' S' := by
  unfold f_X2_nextEdge_6B g_X2_nextEdge_6B
  exact (Lf_if (c_kd hv0) (Lf_if (cI_le (pI_g hS hv0 rfl) hv5) (l_X2_nextEdge_77 hv4 hS) (Lf_if (cI_le rfl hv5) (l_X2_nextEdge_77 hv4 hS) (Lf_if (c_inb hv5 rfl) (l_X2_nextEdge_34 hk6 hv0 hv1 hv2 hv3 hv4 hv5 (pR_g hS (pR_add hv0 rfl) (pN_of hv5)) hS) rfl))) rfl)
def g_X2_nextEdge_6 : Nat → Nat → Int → Int → Int → Int → Int → MZ → Option (Int × MZ)
  | 0 => fun _ _ _ _ _ _ _ => none
  | n + 1 => g_X2_nextEdge_6B (g_X2_nextEdge_6 n)
theorem l_X2_nextEdge_6 : ∀ (n : Nat) {x0 : Nat} {x1 : Int32} {x2 : Int32} {x3 : Int32} {x4 : Int32} {x5 : Int32} {x6 : Mem} {y0 : Nat} {y1 : Int} {y2 : Int} {y3 : Int} {y4 : Int} {y5 : Int} {y6 : MZ}, x0 = y0 → tI x1 = y1 → tI x2 = y2 → tI x3 = y3 → tI x4 = y4 → tI x5 = y5 → tz x6 = y6 → Lf tI (f_X2_nextEdge_6 n x0 x1 x2 x3 x4 x5 x6) = g_X2_nextEdge_6 n y0 y1 y2 y3 y4 y5 y6
  | 0, _, _, _, _, _, _, _, _, _, _, _, _, _, _, _, _, _, _, _, _, _ => rfl
  | n + 1, _, _, _, _, _, _, _, _, _, _, _, _, _, _, e0, e1, e2, e3, e4, e5, e6 => l_X2_nextEdge_6B (fun de0 de1 de2 de3 de4 de5 de6 => l_X2_nextEdge_6 n de0 de1 de2 de3 de4 de5 de6) e0 e1 e2 e3 e4 e5 e6
def g_X2_nextEdge (h0 : Nat) (p1 : Int) (p2 : Int) (p3 : Int) (S : MZ) : Option (Int × MZ) := (g_X2_nextEdge_6 100000 h0 p1 p2 p3 (-1) 0 S)
theorem l_X2_nextEdge {h0 : Nat} {h0' : Nat} (hh0 : h0 = h0') {p1 : Int32} {p1' : Int} (hp1 : tI p1 = p1') {p2 : Int32} {p2' : Int} (hp2 : tI p2 = p2') {p3 : Int32} {p3' : Int} (hp3 : tI p3 = p3') {S : Mem} {S' : MZ} (hS : tz S = S') : Lf tI (f_X2_nextEdge h0 p1 p2 p3 S) = g_X2_nextEdge h0' p1' p2' p3' S' := by
  unfold f_X2_nextEdge g_X2_nextEdge
  exact (l_X2_nextEdge_6 100000 hh0 hp1 hp2 hp3 rfl rfl hS)
def g_X10_aimBefore_65 (s0 : Int) (S : MZ) : Option (Int × MZ) := (some (s0, S))
theorem l_X10_aimBefore_65 {s0 : Int32} {s0' : Int} (hs0 : tI s0 = s0') {S : Mem} {S' : MZ} (hS : tz S = S') : Lf tI (f_X10_aimBefore_65 s0 S) = g_X10_aimBefore_65 s0' S' := by
  unfold f_X10_aimBefore_65 g_X10_aimBefore_65
  exact (Lf_some hs0 hS)
def g_X10_aimBefore_60 (v1 : Int) (S : MZ) : Option (Int × MZ) := (g_X10_aimBefore_65 v1 S)
theorem l_X10_aimBefore_60 {v1 : Int32} {v1' : Int} (hv1 : tI v1 = v1') {S : Mem} {S' : MZ} (hS : tz S = S') : Lf tI (f_X10_aimBefore_60 v1 S) = g_X10_aimBefore_60 v1' S' := by
  unfold f_X10_aimBefore_60 g_X10_aimBefore_60
  exact (l_X10_aimBefore_65 hv1 hS)
def g_X10_aimBefore_50 (v1 : Int) (v2 : Int) (s0 : Int) (S : MZ) : Option (Int × MZ) := (if v2 = (-1) then (g_X10_aimBefore_60 v1 S) else (if s0 = 0 then (g_X10_aimBefore_65 v2 S) else (g_X10_aimBefore_60 v1 S)))
theorem l_X10_aimBefore_50 {v1 : Int32} {v1' : Int} (hv1 : tI v1 = v1') {v2 : Int32} {v2' : Int} (hv2 : tI v2 = v2') {s0 : Int32} {s0' : Int} (hs0 : tI s0 = s0') {S : Mem} {S' : MZ} (hS : tz S = S') : Lf tI (f_X10_aimBefore_50 v1 v2 s0 S) = g_X10_aimBefore_50 v1' v2' s0' S' := by
  unfold f_X10_aimBefore_50 g_X10_aimBefore_50
  exact (Lf_if (cI_eq hv2 rfl) (l_X10_aimBefore_60 hv1 hS) (Lf_if (cI_eq hs0 rfl) (l_X10_aimBefore_65 hv2 hS) (l_X10_aimBefore_60 hv1 hS)))
def g_X10_aimBefore (p1 : Int) (S : MZ) : Option (Int × MZ) := (if kd (zR S 4 0) = (1, 9) then ((g_X2_nextEdge (zR S 4 0) (zI S 4 2) (zI S 4 8) (zI S 4 3) S).bind fun q16 => (if (zI q16.2 4 3) = 0 then (if p1 < q16.1 then (g_X10_aimBefore_50 p1 q16.1 0 q16.2) else (g_X10_aimBefore_50 p1 q16.1 1 q16.2)) else (if q16.1 < p1 then (g_X10_aimBefore_50 p1 q16.1 0 q16.2) else (g_X10_aimBefore_50 p1 q16.1 1 q16.2)))) else none)
theorem l_X10_aimBefore {p1 : Int32} {p1' : Int} (hp1 : tI p1 = p1') {S : Mem} {S' : MZ} (hS : tz S = S') : Lf tI (f_X10_aimBefore p1 S) = g_X10_aimBefore p1' S' := by
  unfold f_X10_aimBefore g_X10_aimBefore
  exact (Lf_if (c_kd (pR_g hS rfl rfl)) (Lf_bind (l_X2_nextEdge (pR_g hS rfl rfl) (pI_g hS rfl rfl) (pI_g hS rfl rfl) (pI_g hS rfl rfl) hS) (fun q16 => (Lf_if (cI_eq (pI_g rfl rfl rfl) rfl) (Lf_if (cI_lt hp1 rfl) (l_X10_aimBefore_50 hp1 rfl rfl rfl) (l_X10_aimBefore_50 hp1 rfl rfl rfl)) (Lf_if (cI_lt rfl hp1) (l_X10_aimBefore_50 hp1 rfl rfl rfl) (l_X10_aimBefore_50 hp1 rfl rfl rfl))))) rfl)
def g_X2_liquidityAt_69 (k5 : Nat → Int → Int → Int → Int → MZ → Option (Int × MZ)) (v0 : Nat) (v1 : Int) (v2 : Int) (v3 : Int) (v5 : Int) (S : MZ) : Option (Int × MZ) := (k5 v0 v1 v2 v3 (w32 (v5 + 1)) S)
theorem l_X2_liquidityAt_69 {k5 : Nat → Int32 → Int32 → Int64 → Int32 → Mem → Option (Int64 × Mem)} {k5' : Nat → Int → Int → Int → Int → MZ → Option (Int × MZ)} (hk5 : ∀ {x0 : Nat} {x1 : Int32} {x2 : Int32} {x3 : Int64} {x4 : Int32} {x5 : Mem} {y0 : Nat} {y1 : Int} {y2 : Int} {y3 : Int} {y4 : Int} {y5 : MZ}, x0 = y0 → tI x1 = y1 → tI x2 = y2 → tJ x3 = y3 → tI x4 = y4 → tz x5 = y5 → Lf tJ (k5 x0 x1 x2 x3 x4 x5) = k5' y0 y1 y2 y3 y4 y5) {v0 : Nat} {v0' : Nat} (hv0 : v0 = v0') {v1 : Int32} {v1' : Int} (hv1 : tI v1 = v1') {v2 : Int32} {v2' : Int} (hv2 : tI v2 = v2') {v3 : Int64} {v3' : Int} (hv3 : tJ v3 = v3') {v5 : Int32} {v5' : Int} (hv5 : tI v5 = v5') {S : Mem} {S' : MZ} (hS : tz S = S') : Lf tJ (f_X2_liquidityAt_69 k5 v0 v1 v2 v3 v5 S) = g_X2_liquidityAt_69 k5' v0' v1' v2' v3' v5' S' := by
  unfold f_X2_liquidityAt_69 g_X2_liquidityAt_69
  exact (hk5 hv0 hv1 hv2 hv3 (pI_add hv5 rfl) hS)
def g_X2_liquidityAt_33 (k5 : Nat → Int → Int → Int → Int → MZ → Option (Int × MZ)) (v0 : Nat) (v1 : Int) (v2 : Int) (v3 : Int) (v5 : Int) (v6 : Nat) (S : MZ) : Option (Int × MZ) := (if kd v6 = (6, 8) then (if (zI S v6 1) = v1 then (if v2 < (zI S v6 2) then (g_X2_liquidityAt_69 k5 v0 v1 v2 v3 v5 S) else (if (zI S v6 3) ≤ v2 then (g_X2_liquidityAt_69 k5 v0 v1 v2 v3 v5 S) else (g_X2_liquidityAt_69 k5 v0 v1 v2 (w64 (v3 + (zI S v6 5))) v5 S))) else (g_X2_liquidityAt_69 k5 v0 v1 v2 v3 v5 S)) else none)
theorem l_X2_liquidityAt_33 {k5 : Nat → Int32 → Int32 → Int64 → Int32 → Mem → Option (Int64 × Mem)} {k5' : Nat → Int → Int → Int → Int → MZ → Option (Int × MZ)} (hk5 : ∀ {x0 : Nat} {x1 : Int32} {x2 : Int32} {x3 : Int64} {x4 : Int32} {x5 : Mem} {y0 : Nat} {y1 : Int} {y2 : Int} {y3 : Int} {y4 : Int} {y5 : MZ}, x0 = y0 → tI x1 = y1 → tI x2 = y2 → tJ x3 = y3 → tI x4 = y4 → tz x5 = y5 → Lf tJ (k5 x0 x1 x2 x3 x4 x5) = k5' y0 y1 y2 y3 y4 y5) {v0 : Nat} {v0' : Nat} (hv0 : v0 = v0') {v1 : Int32} {v1' : Int} (hv1 : tI v1 = v1') {v2 : Int32} {v2' : Int} (hv2 : tI v2 = v2') {v3 : Int64} {v3' : Int} (hv3 : tJ v3 = v3') {v5 : Int32} {v5' : Int} (hv5 : tI v5 = v5') {v6 : Nat} {v6' : Nat} (hv6 : v6 = v6') {S : Mem} {S' : MZ} (hS : tz S = S') : Lf tJ (f_X2_liquidityAt_33 k5 v0 v1 v2 v3 v5 v6 S) = g_X2_liquidityAt_33 k5' v0' v1' v2' v3' v5' v6' S' := by
  unfold f_X2_liquidityAt_33 g_X2_liquidityAt_33
  exact (Lf_if (c_kd hv6) (Lf_if (cI_eq (pI_g hS hv6 rfl) hv1) (Lf_if (cI_lt hv2 (pI_g hS hv6 rfl)) (l_X2_liquidityAt_69 hk5 hv0 hv1 hv2 hv3 hv5 hS) (Lf_if (cI_le (pI_g hS hv6 rfl) hv2) (l_X2_liquidityAt_69 hk5 hv0 hv1 hv2 hv3 hv5 hS) (l_X2_liquidityAt_69 hk5 hv0 hv1 hv2 (pJ_add hv3 (pJ_of (pI_g hS hv6 rfl))) hv5 hS))) (l_X2_liquidityAt_69 hk5 hv0 hv1 hv2 hv3 hv5 hS)) rfl)
def g_X2_liquidityAt_75 (v3 : Int) (S : MZ) : Option (Int × MZ) := (some (v3, S))
theorem l_X2_liquidityAt_75 {v3 : Int64} {v3' : Int} (hv3 : tJ v3 = v3') {S : Mem} {S' : MZ} (hS : tz S = S') : Lf tJ (f_X2_liquidityAt_75 v3 S) = g_X2_liquidityAt_75 v3' S' := by
  unfold f_X2_liquidityAt_75 g_X2_liquidityAt_75
  exact (Lf_some hv3 hS)
def g_X2_liquidityAt_5B (k5 : Nat → Int → Int → Int → Int → MZ → Option (Int × MZ)) (v0 : Nat) (v1 : Int) (v2 : Int) (v3 : Int) (v5 : Int) (S : MZ) : Option (Int × MZ) := (if kd v0 = (1, 9) then (if (zI S v0 3) ≤ v5 then (g_X2_liquidityAt_75 v3 S) else (if 12 ≤ v5 then (g_X2_liquidityAt_75 v3 S) else (if (0 ≤ v5 ∧ v5 < ((12 : Nat) : Int)) then (g_X2_liquidityAt_33 k5 v0 v1 v2 v3 v5 (zR S (v0 + 3) (v5).toNat) S) else none))) else none)
theorem l_X2_liquidityAt_5B {k5 : Nat → Int32 → Int32 → Int64 → Int32 → Mem → Option (Int64 × Mem)} {k5' : Nat → Int → Int → Int → Int → MZ → Option (Int × MZ)} (hk5 : ∀ {x0 : Nat} {x1 : Int32} {x2 : Int32} {x3 : Int64} {x4 : Int32} {x5 : Mem} {y0 : Nat} {y1 : Int} {y2 : Int} {y3 : Int} {y4 : Int} {y5 : MZ}, x0 = y0 → tI x1 = y1 → tI x2 = y2 → tJ x3 = y3 → tI x4 = y4 → tz x5 = y5 → Lf tJ (k5 x0 x1 x2 x3 x4 x5) = k5' y0 y1 y2 y3 y4 y5) {v0 : Nat} {v0' : Nat} (hv0 : v0 = v0') {v1 : Int32} {v1' : Int} (hv1 : tI v1 = v1') {v2 : Int32} {v2' : Int} (hv2 : tI v2 = v2') {v3 : Int64} {v3' : Int} (hv3 : tJ v3 = v3') {v5 : Int32} {v5' : Int} (hv5 : tI v5 = v5') {S : Mem} {S' : MZ} (hS : tz S = S') : Lf tJ (f_X2_liquidityAt_5B k5 v0 v1 v2 v3 v5 S) = g_X2_liquidityAt_5B k5' v0' v1' v2' v3' v5' S' := by
  unfold f_X2_liquidityAt_5B g_X2_liquidityAt_5B
  exact (Lf_if (c_kd hv0) (Lf_if (cI_le (pI_g hS hv0 rfl) hv5) (l_X2_liquidityAt_75 hv3 hS) (Lf_if (cI_le rfl hv5) (l_X2_liquidityAt_75 hv3 hS) (Lf_if (c_inb hv5 rfl) (l_X2_liquidityAt_33 hk5 hv0 hv1 hv2 hv3 hv5 (pR_g hS (pR_add hv0 rfl) (pN_of hv5)) hS) rfl))) rfl)
def g_X2_liquidityAt_5 : Nat → Nat → Int → Int → Int → Int → MZ → Option (Int × MZ)
  | 0 => fun _ _ _ _ _ _ => none
  | n + 1 => g_X2_liquidityAt_5B (g_X2_liquidityAt_5 n)
theorem l_X2_liquidityAt_5 : ∀ (n : Nat) {x0 : Nat} {x1 : Int32} {x2 : Int32} {x3 : Int64} {x4 : Int32} {x5 : Mem} {y0 : Nat} {y1 : Int} {y2 : Int} {y3 : Int} {y4 : Int} {y5 : MZ}, x0 = y0 → tI x1 = y1 → tI x2 = y2 → tJ x3 = y3 → tI x4 = y4 → tz x5 = y5 → Lf tJ (f_X2_liquidityAt_5 n x0 x1 x2 x3 x4 x5) = g_X2_liquidityAt_5 n y0 y1 y2 y3 y4 y5
  | 0, _, _, _, _, _, _, _, _, _, _, _, _, _, _, _, _, _, _ => rfl
  | n + 1, _, _, _, _, _, _, _, _, _, _, _, _, e0, e1, e2, e3, e4, e5 => l_X2_liquidityAt_5B (fun de0 de1 de2 de3 de4 de5 => l_X2_liquidityAt_5 n de0 de1 de2 de3 de4 de5) e0 e1 e2 e3 e4 e5
def g_X2_liquidityAt (h0 : Nat) (p1 : Int) (p2 : Int) (S : MZ) : Option (Int × MZ) := (g_X2_liquidityAt_5 100000 h0 p1 p2 0 0 S)
theorem l_X2_liquidityAt {h0 : Nat} {h0' : Nat} (hh0 : h0 = h0') {p1 : Int32} {p1' : Int} (hp1 : tI p1 = p1') {p2 : Int32} {p2' : Int} (hp2 : tI p2 = p2') {S : Mem} {S' : MZ} (hS : tz S = S') : Lf tJ (f_X2_liquidityAt h0 p1 p2 S) = g_X2_liquidityAt h0' p1' p2' S' := by
  unfold f_X2_liquidityAt g_X2_liquidityAt
  exact (l_X2_liquidityAt_5 100000 hh0 hp1 hp2 rfl rfl hS)
def g_X7_reaches_21 (s0 : Int) (S : MZ) : Option (Int × MZ) := (if (s0 = 0 ∨ s0 = 1) then (some (s0, S)) else none)
theorem l_X7_reaches_21 {s0 : Int32} {s0' : Int} (hs0 : tI s0 = s0') {S : Mem} {S' : MZ} (hS : tz S = S') : Lf tI (f_X7_reaches_21 s0 S) = g_X7_reaches_21 s0' S' := by
  unfold f_X7_reaches_21 g_X7_reaches_21
  exact (Lf_if (c_isB hs0) (Lf_some hs0 hS) rfl)
def g_X7_reaches_20 (S : MZ) : Option (Int × MZ) := (g_X7_reaches_21 0 S)
theorem l_X7_reaches_20 {S : Mem} {S' : MZ} (hS : tz S = S') : Lf tI (f_X7_reaches_20 S) = g_X7_reaches_20 S' := by
  unfold f_X7_reaches_20 g_X7_reaches_20
  exact (l_X7_reaches_21 rfl hS)
def g_X7_reaches (h0 : Nat) (p1 : Int) (S : MZ) : Option (Int × MZ) := (if kd h0 = (6, 8) then (if p1 < (zI S h0 2) then (g_X7_reaches_20 S) else (if (zI S h0 3) ≤ p1 then (g_X7_reaches_20 S) else (g_X7_reaches_21 1 S))) else none)
theorem l_X7_reaches {h0 : Nat} {h0' : Nat} (hh0 : h0 = h0') {p1 : Int32} {p1' : Int} (hp1 : tI p1 = p1') {S : Mem} {S' : MZ} (hS : tz S = S') : Lf tI (f_X7_reaches h0 p1 S) = g_X7_reaches h0' p1' S' := by
  unfold f_X7_reaches g_X7_reaches
  exact (Lf_if (c_kd hh0) (Lf_if (cI_lt hp1 (pI_g hS hh0 rfl)) (l_X7_reaches_20 hS) (Lf_if (cI_le (pI_g hS hh0 rfl) hp1) (l_X7_reaches_20 hS) (l_X7_reaches_21 rfl hS))) rfl)
def g_X2_share_42 (S : MZ) : Option (Unit × MZ) := (some ((), S))
theorem l_X2_share_42 {S : Mem} {S' : MZ} (hS : tz S = S') : Lf tU (f_X2_share_42 S) = g_X2_share_42 S' := by
  unfold f_X2_share_42 g_X2_share_42
  exact (Lf_some rfl hS)
def g_X2_share_148 (k86 : Nat → Int → Int → Nat → Int → Int → MZ → Option (Unit × MZ)) (v0 : Nat) (v1 : Int) (v2 : Int) (v5 : Nat) (v10 : Int) (v12 : Int) (S : MZ) : Option (Unit × MZ) := (k86 v0 v1 v2 v5 v10 (w32 (v12 + 1)) S)
theorem l_X2_share_148 {k86 : Nat → Int32 → Int32 → Nat → Int64 → Int32 → Mem → Option (Unit × Mem)} {k86' : Nat → Int → Int → Nat → Int → Int → MZ → Option (Unit × MZ)} (hk86 : ∀ {x0 : Nat} {x1 : Int32} {x2 : Int32} {x3 : Nat} {x4 : Int64} {x5 : Int32} {x6 : Mem} {y0 : Nat} {y1 : Int} {y2 : Int} {y3 : Nat} {y4 : Int} {y5 : Int} {y6 : MZ}, x0 = y0 → tI x1 = y1 → tI x2 = y2 → x3 = y3 → tJ x4 = y4 → tI x5 = y5 → tz x6 = y6 → Lf tU (k86 x0 x1 x2 x3 x4 x5 x6) = k86' y0 y1 y2 y3 y4 y5 y6) {v0 : Nat} {v0' : Nat} (hv0 : v0 = v0') {v1 : Int32} {v1' : Int} (hv1 : tI v1 = v1') {v2 : Int32} {v2' : Int} (hv2 : tI v2 = v2') {v5 : Nat} {v5' : Nat} (hv5 : v5 = v5') {v10 : Int64} {v10' : Int} (hv10 : tJ v10 = v10') {v12 : Int32} {v12' : Int} (hv12 : tI v12 = v12') {S : Mem} {S' : MZ} (hS : tz S = S') : Lf tU (f_X2_share_148 k86 v0 v1 v2 v5 v10 v12 S) = g_X2_share_148 k86' v0' v1' v2' v5' v10' v12' S' := by
  unfold f_X2_share_148 g_X2_share_148
  exact (hk86 hv0 hv1 hv2 hv5 hv10 (pI_add hv12 rfl) hS)
def g_X2_share_114 (k86 : Nat → Int → Int → Nat → Int → Int → MZ → Option (Unit × MZ)) (v0 : Nat) (v1 : Int) (v2 : Int) (v5 : Nat) (v10 : Int) (v12 : Int) (v13 : Nat) (S : MZ) : Option (Unit × MZ) := (if kd v13 = (6, 8) then (if (zI S v13 1) = v1 then (if kd v5 = (3, 12) then ((g_X7_reaches v13 (zI S v5 6) S).bind fun q130 => (if q130.1 = 0 then (g_X2_share_148 k86 v0 v1 v2 v5 v10 v12 q130.2) else (if (0 ≤ v2 ∧ v2 < ((2 : Nat) : Int)) then (if (0 ≤ v2 ∧ v2 < ((2 : Nat) : Int)) then (g_X2_share_148 k86 v0 v1 v2 v5 v10 v12 (uL q130.2 (v13 + 1) (v2).toNat (w64 ((zL q130.2 (v13 + 1) (v2).toNat) + v10)))) else none) else none))) else none) else (g_X2_share_148 k86 v0 v1 v2 v5 v10 v12 S)) else none)
theorem l_X2_share_114 {k86 : Nat → Int32 → Int32 → Nat → Int64 → Int32 → Mem → Option (Unit × Mem)} {k86' : Nat → Int → Int → Nat → Int → Int → MZ → Option (Unit × MZ)} (hk86 : ∀ {x0 : Nat} {x1 : Int32} {x2 : Int32} {x3 : Nat} {x4 : Int64} {x5 : Int32} {x6 : Mem} {y0 : Nat} {y1 : Int} {y2 : Int} {y3 : Nat} {y4 : Int} {y5 : Int} {y6 : MZ}, x0 = y0 → tI x1 = y1 → tI x2 = y2 → x3 = y3 → tJ x4 = y4 → tI x5 = y5 → tz x6 = y6 → Lf tU (k86 x0 x1 x2 x3 x4 x5 x6) = k86' y0 y1 y2 y3 y4 y5 y6) {v0 : Nat} {v0' : Nat} (hv0 : v0 = v0') {v1 : Int32} {v1' : Int} (hv1 : tI v1 = v1') {v2 : Int32} {v2' : Int} (hv2 : tI v2 = v2') {v5 : Nat} {v5' : Nat} (hv5 : v5 = v5') {v10 : Int64} {v10' : Int} (hv10 : tJ v10 = v10') {v12 : Int32} {v12' : Int} (hv12 : tI v12 = v12') {v13 : Nat} {v13' : Nat} (hv13 : v13 = v13') {S : Mem} {S' : MZ} (hS : tz S = S') : Lf tU (f_X2_share_114 k86 v0 v1 v2 v5 v10 v12 v13 S) = g_X2_share_114 k86' v0' v1' v2' v5' v10' v12' v13' S' := by
  unfold f_X2_share_114 g_X2_share_114
  exact (Lf_if (c_kd hv13) (Lf_if (cI_eq (pI_g hS hv13 rfl) hv1) (Lf_if (c_kd hv5) (Lf_bind (l_X7_reaches hv13 (pI_g hS hv5 rfl) hS) (fun q130 => (Lf_if (cI_eq rfl rfl) (l_X2_share_148 hk86 hv0 hv1 hv2 hv5 hv10 hv12 rfl) (Lf_if (c_inb hv2 rfl) (Lf_if (c_inb hv2 rfl) (l_X2_share_148 hk86 hv0 hv1 hv2 hv5 hv10 hv12 (pM_L rfl (pR_add hv13 rfl) (pN_of hv2) (pJ_add (pJ_g rfl (pR_add hv13 rfl) (pN_of hv2)) hv10))) rfl) rfl)))) rfl) (l_X2_share_148 hk86 hv0 hv1 hv2 hv5 hv10 hv12 hS)) rfl)
def g_X2_share_154 (S : MZ) : Option (Unit × MZ) := (some ((), S))
theorem l_X2_share_154 {S : Mem} {S' : MZ} (hS : tz S = S') : Lf tU (f_X2_share_154 S) = g_X2_share_154 S' := by
  unfold f_X2_share_154 g_X2_share_154
  exact (Lf_some rfl hS)
def g_X2_share_86B (k86 : Nat → Int → Int → Nat → Int → Int → MZ → Option (Unit × MZ)) (v0 : Nat) (v1 : Int) (v2 : Int) (v5 : Nat) (v10 : Int) (v12 : Int) (S : MZ) : Option (Unit × MZ) := (if kd v0 = (1, 9) then (if (zI S v0 3) ≤ v12 then (g_X2_share_154 S) else (if 12 ≤ v12 then (g_X2_share_154 S) else (if (0 ≤ v12 ∧ v12 < ((12 : Nat) : Int)) then (g_X2_share_114 k86 v0 v1 v2 v5 v10 v12 (zR S (v0 + 3) (v12).toNat) S) else none))) else none)
theorem l_X2_share_86B {k86 : Nat → Int32 → Int32 → Nat → Int64 → Int32 → Mem → Option (Unit × Mem)} {k86' : Nat → Int → Int → Nat → Int → Int → MZ → Option (Unit × MZ)} (hk86 : ∀ {x0 : Nat} {x1 : Int32} {x2 : Int32} {x3 : Nat} {x4 : Int64} {x5 : Int32} {x6 : Mem} {y0 : Nat} {y1 : Int} {y2 : Int} {y3 : Nat} {y4 : Int} {y5 : Int} {y6 : MZ}, x0 = y0 → tI x1 = y1 → tI x2 = y2 → x3 = y3 → tJ x4 = y4 → tI x5 = y5 → tz x6 = y6 → Lf tU (k86 x0 x1 x2 x3 x4 x5 x6) = k86' y0 y1 y2 y3 y4 y5 y6) {v0 : Nat} {v0' : Nat} (hv0 : v0 = v0') {v1 : Int32} {v1' : Int} (hv1 : tI v1 = v1') {v2 : Int32} {v2' : Int} (hv2 : tI v2 = v2') {v5 : Nat} {v5' : Nat} (hv5 : v5 = v5') {v10 : Int64} {v10' : Int} (hv10 : tJ v10 = v10') {v12 : Int32} {v12' : Int} (hv12 : tI v12 = v12') {S : Mem} {S' : MZ} (hS : tz S = S') : Lf tU (f_X2_share_86B k86 v0 v1 v2 v5 v10 v12 S) = g_X2_share_86B k86' v0' v1' v2' v5' v10' v12' S' := by
  unfold f_X2_share_86B g_X2_share_86B
  exact (Lf_if (c_kd hv0) (Lf_if (cI_le (pI_g hS hv0 rfl) hv12) (l_X2_share_154 hS) (Lf_if (cI_le rfl hv12) (l_X2_share_154 hS) (Lf_if (c_inb hv12 rfl) (l_X2_share_114 hk86 hv0 hv1 hv2 hv5 hv10 hv12 (pR_g hS (pR_add hv0 rfl) (pN_of hv12)) hS) rfl))) rfl)
def g_X2_share_86 : Nat → Nat → Int → Int → Nat → Int → Int → MZ → Option (Unit × MZ)
  | 0 => fun _ _ _ _ _ _ _ => none
  | n + 1 => g_X2_share_86B (g_X2_share_86 n)
theorem l_X2_share_86 : ∀ (n : Nat) {x0 : Nat} {x1 : Int32} {x2 : Int32} {x3 : Nat} {x4 : Int64} {x5 : Int32} {x6 : Mem} {y0 : Nat} {y1 : Int} {y2 : Int} {y3 : Nat} {y4 : Int} {y5 : Int} {y6 : MZ}, x0 = y0 → tI x1 = y1 → tI x2 = y2 → x3 = y3 → tJ x4 = y4 → tI x5 = y5 → tz x6 = y6 → Lf tU (f_X2_share_86 n x0 x1 x2 x3 x4 x5 x6) = g_X2_share_86 n y0 y1 y2 y3 y4 y5 y6
  | 0, _, _, _, _, _, _, _, _, _, _, _, _, _, _, _, _, _, _, _, _, _ => rfl
  | n + 1, _, _, _, _, _, _, _, _, _, _, _, _, _, _, e0, e1, e2, e3, e4, e5, e6 => l_X2_share_86B (fun de0 de1 de2 de3 de4 de5 de6 => l_X2_share_86 n de0 de1 de2 de3 de4 de5 de6) e0 e1 e2 e3 e4 e5 e6
def g_X2_share_83 (v0 : Nat) (v1 : Int) (v2 : Int) (v5 : Nat) (v10 : Int) (S : MZ) : Option (Unit × MZ) := (g_X2_share_86 100000 v0 v1 v2 v5 v10 0 S)
theorem l_X2_share_83 {v0 : Nat} {v0' : Nat} (hv0 : v0 = v0') {v1 : Int32} {v1' : Int} (hv1 : tI v1 = v1') {v2 : Int32} {v2' : Int} (hv2 : tI v2 = v2') {v5 : Nat} {v5' : Nat} (hv5 : v5 = v5') {v10 : Int64} {v10' : Int} (hv10 : tJ v10 = v10') {S : Mem} {S' : MZ} (hS : tz S = S') : Lf tU (f_X2_share_83 v0 v1 v2 v5 v10 S) = g_X2_share_83 v0' v1' v2' v5' v10' S' := by
  unfold f_X2_share_83 g_X2_share_83
  exact (l_X2_share_86 100000 hv0 hv1 hv2 hv5 hv10 rfl hS)
def g_X2_share_57 (v0 : Nat) (v1 : Int) (v2 : Int) (v3 : Int) (v5 : Nat) (v6 : Int) (v8 : Int) (S : MZ) : Option (Unit × MZ) := (if kd v5 = (3, 12) then (if (0 ≤ v2 ∧ v2 < ((2 : Nat) : Int)) then (if (0 ≤ v2 ∧ v2 < ((2 : Nat) : Int)) then (if v6 = 0 then none else (g_X2_share_83 v0 v1 v2 v5 (w64 (Int.tdiv (w64 ((w64 (v3 - v8)) * 1048576)) v6)) (uI S (v5 + 2) (v2).toNat (w32 ((zI S (v5 + 2) (v2).toNat) + (w32 v8)))))) else none) else none) else none)
theorem l_X2_share_57 {v0 : Nat} {v0' : Nat} (hv0 : v0 = v0') {v1 : Int32} {v1' : Int} (hv1 : tI v1 = v1') {v2 : Int32} {v2' : Int} (hv2 : tI v2 = v2') {v3 : Int64} {v3' : Int} (hv3 : tJ v3 = v3') {v5 : Nat} {v5' : Nat} (hv5 : v5 = v5') {v6 : Int64} {v6' : Int} (hv6 : tJ v6 = v6') {v8 : Int64} {v8' : Int} (hv8 : tJ v8 = v8') {S : Mem} {S' : MZ} (hS : tz S = S') : Lf tU (f_X2_share_57 v0 v1 v2 v3 v5 v6 v8 S) = g_X2_share_57 v0' v1' v2' v3' v5' v6' v8' S' := by
  unfold f_X2_share_57 g_X2_share_57
  exact (Lf_if (c_kd hv5) (Lf_if (c_inb hv2 rfl) (Lf_if (c_inb hv2 rfl) (Lf_if (cJ_eq hv6 rfl) rfl (l_X2_share_83 hv0 hv1 hv2 hv5 (pJ_div (pJ_mul (pJ_sub hv3 hv8) rfl) hv6) (pM_I hS (pR_add hv5 rfl) (pN_of hv2) (pI_add (pI_g hS (pR_add hv5 rfl) (pN_of hv2)) (pI_of hv8))))) rfl) rfl) rfl)
def g_X2_share_26 (v0 : Nat) (v1 : Int) (v2 : Int) (v3 : Int) (v5 : Nat) (s0 : Int) (S : MZ) : Option (Unit × MZ) := (if s0 < 1 then (g_X2_share_42 S) else ((g_X11_isSide v2 S).bind fun q36 => (if q36.1 = 0 then (g_X2_share_42 q36.2) else (if kd v5 = (3, 12) then (g_X2_share_57 v0 v1 v2 v3 v5 s0 (w64 (Int.tdiv (w64 (v3 * (zI q36.2 v5 3))) 100)) q36.2) else none))))
theorem l_X2_share_26 {v0 : Nat} {v0' : Nat} (hv0 : v0 = v0') {v1 : Int32} {v1' : Int} (hv1 : tI v1 = v1') {v2 : Int32} {v2' : Int} (hv2 : tI v2 = v2') {v3 : Int64} {v3' : Int} (hv3 : tJ v3 = v3') {v5 : Nat} {v5' : Nat} (hv5 : v5 = v5') {s0 : Int64} {s0' : Int} (hs0 : tJ s0 = s0') {S : Mem} {S' : MZ} (hS : tz S = S') : Lf tU (f_X2_share_26 v0 v1 v2 v3 v5 s0 S) = g_X2_share_26 v0' v1' v2' v3' v5' s0' S' := by
  unfold f_X2_share_26 g_X2_share_26
  exact (Lf_if (cJ_lt hs0 rfl) (l_X2_share_42 hS) (Lf_bind (l_X11_isSide hv2 hS) (fun q36 => (Lf_if (cI_eq rfl rfl) (l_X2_share_42 rfl) (Lf_if (c_kd hv5) (l_X2_share_57 hv0 hv1 hv2 hv3 hv5 hs0 (pJ_div (pJ_mul hv3 (pJ_of (pI_g rfl hv5 rfl))) rfl) rfl) rfl)))))
def g_X2_share (h0 : Nat) (p1 : Int) (p2 : Int) (p3 : Int) (S : MZ) : Option (Unit × MZ) := (if kd h0 = (1, 9) then ((g_X2_poolAt h0 p1 S).bind fun q2 => (if q2.1 = 0 then (g_X2_share_26 h0 p1 p2 p3 q2.1 0 q2.2) else (if kd q2.1 = (3, 12) then ((g_X2_liquidityAt h0 p1 (zI q2.2 q2.1 6) q2.2).bind fun q23 => (g_X2_share_26 h0 p1 p2 p3 q2.1 q23.1 q23.2)) else none))) else none)
theorem l_X2_share {h0 : Nat} {h0' : Nat} (hh0 : h0 = h0') {p1 : Int32} {p1' : Int} (hp1 : tI p1 = p1') {p2 : Int32} {p2' : Int} (hp2 : tI p2 = p2') {p3 : Int64} {p3' : Int} (hp3 : tJ p3 = p3') {S : Mem} {S' : MZ} (hS : tz S = S') : Lf tU (f_X2_share h0 p1 p2 p3 S) = g_X2_share h0' p1' p2' p3' S' := by
  unfold f_X2_share g_X2_share
  exact (Lf_if (c_kd hh0) (Lf_bind (l_X2_poolAt hh0 hp1 hS) (fun q2 => (Lf_if (cR_eq rfl rfl) (l_X2_share_26 hh0 hp1 hp2 hp3 rfl rfl rfl) (Lf_if (c_kd rfl) (Lf_bind (l_X2_liquidityAt hh0 hp1 (pI_g rfl rfl rfl) rfl) (fun q23 => (l_X2_share_26 hh0 hp1 hp2 hp3 rfl rfl rfl))) rfl)))) rfl)
def g_X10_takeIn_51 (S : MZ) : Option (Unit × MZ) := (some ((), S))
theorem l_X10_takeIn_51 {S : Mem} {S' : MZ} (hS : tz S = S') : Lf tU (f_X10_takeIn_51 S) = g_X10_takeIn_51 S' := by
  unfold f_X10_takeIn_51 g_X10_takeIn_51
  exact (Lf_some rfl hS)
def g_X10_takeIn (p1 : Int) (p3 : Int) (S : MZ) : Option (Unit × MZ) := (if (zI (uL (uL S 4 12 (w64 ((zL S 4 12) + (w64 (p1 + p3))))) 4 13 (w64 ((zL (uL S 4 12 (w64 ((zL S 4 12) + (w64 (p1 + p3))))) 4 13) + p3))) 4 4) = 0 then (g_X10_takeIn_51 (uL (uL S 4 12 (w64 ((zL S 4 12) + (w64 (p1 + p3))))) 4 13 (w64 ((zL (uL S 4 12 (w64 ((zL S 4 12) + (w64 (p1 + p3))))) 4 13) + p3)))) else (if p3 ≤ 0 then (g_X10_takeIn_51 (uL (uL S 4 12 (w64 ((zL S 4 12) + (w64 (p1 + p3))))) 4 13 (w64 ((zL (uL S 4 12 (w64 ((zL S 4 12) + (w64 (p1 + p3))))) 4 13) + p3)))) else (if kd (zR (uL (uL S 4 12 (w64 ((zL S 4 12) + (w64 (p1 + p3))))) 4 13 (w64 ((zL (uL S 4 12 (w64 ((zL S 4 12) + (w64 (p1 + p3))))) 4 13) + p3))) 4 0) = (1, 9) then ((g_X2_share (zR (uL (uL S 4 12 (w64 ((zL S 4 12) + (w64 (p1 + p3))))) 4 13 (w64 ((zL (uL S 4 12 (w64 ((zL S 4 12) + (w64 (p1 + p3))))) 4 13) + p3))) 4 0) (zI (uL (uL S 4 12 (w64 ((zL S 4 12) + (w64 (p1 + p3))))) 4 13 (w64 ((zL (uL S 4 12 (w64 ((zL S 4 12) + (w64 (p1 + p3))))) 4 13) + p3))) 4 2) (zI (uL (uL S 4 12 (w64 ((zL S 4 12) + (w64 (p1 + p3))))) 4 13 (w64 ((zL (uL S 4 12 (w64 ((zL S 4 12) + (w64 (p1 + p3))))) 4 13) + p3))) 4 3) p3 (uL (uL S 4 12 (w64 ((zL S 4 12) + (w64 (p1 + p3))))) 4 13 (w64 ((zL (uL S 4 12 (w64 ((zL S 4 12) + (w64 (p1 + p3))))) 4 13) + p3)))).bind fun q48 => (g_X10_takeIn_51 q48.2)) else none)))
theorem l_X10_takeIn {p1 : Int64} {p1' : Int} (hp1 : tJ p1 = p1') {p3 : Int64} {p3' : Int} (hp3 : tJ p3 = p3') {S : Mem} {S' : MZ} (hS : tz S = S') : Lf tU (f_X10_takeIn p1 p3 S) = g_X10_takeIn p1' p3' S' := by
  unfold f_X10_takeIn g_X10_takeIn
  exact (Lf_if (cI_eq (pI_g (pM_L (pM_L hS rfl rfl (pJ_add (pJ_g hS rfl rfl) (pJ_add hp1 hp3))) rfl rfl (pJ_add (pJ_g (pM_L hS rfl rfl (pJ_add (pJ_g hS rfl rfl) (pJ_add hp1 hp3))) rfl rfl) hp3)) rfl rfl) rfl) (l_X10_takeIn_51 (pM_L (pM_L hS rfl rfl (pJ_add (pJ_g hS rfl rfl) (pJ_add hp1 hp3))) rfl rfl (pJ_add (pJ_g (pM_L hS rfl rfl (pJ_add (pJ_g hS rfl rfl) (pJ_add hp1 hp3))) rfl rfl) hp3))) (Lf_if (cJ_le hp3 rfl) (l_X10_takeIn_51 (pM_L (pM_L hS rfl rfl (pJ_add (pJ_g hS rfl rfl) (pJ_add hp1 hp3))) rfl rfl (pJ_add (pJ_g (pM_L hS rfl rfl (pJ_add (pJ_g hS rfl rfl) (pJ_add hp1 hp3))) rfl rfl) hp3))) (Lf_if (c_kd (pR_g (pM_L (pM_L hS rfl rfl (pJ_add (pJ_g hS rfl rfl) (pJ_add hp1 hp3))) rfl rfl (pJ_add (pJ_g (pM_L hS rfl rfl (pJ_add (pJ_g hS rfl rfl) (pJ_add hp1 hp3))) rfl rfl) hp3)) rfl rfl)) (Lf_bind (l_X2_share (pR_g (pM_L (pM_L hS rfl rfl (pJ_add (pJ_g hS rfl rfl) (pJ_add hp1 hp3))) rfl rfl (pJ_add (pJ_g (pM_L hS rfl rfl (pJ_add (pJ_g hS rfl rfl) (pJ_add hp1 hp3))) rfl rfl) hp3)) rfl rfl) (pI_g (pM_L (pM_L hS rfl rfl (pJ_add (pJ_g hS rfl rfl) (pJ_add hp1 hp3))) rfl rfl (pJ_add (pJ_g (pM_L hS rfl rfl (pJ_add (pJ_g hS rfl rfl) (pJ_add hp1 hp3))) rfl rfl) hp3)) rfl rfl) (pI_g (pM_L (pM_L hS rfl rfl (pJ_add (pJ_g hS rfl rfl) (pJ_add hp1 hp3))) rfl rfl (pJ_add (pJ_g (pM_L hS rfl rfl (pJ_add (pJ_g hS rfl rfl) (pJ_add hp1 hp3))) rfl rfl) hp3)) rfl rfl) hp3 (pM_L (pM_L hS rfl rfl (pJ_add (pJ_g hS rfl rfl) (pJ_add hp1 hp3))) rfl rfl (pJ_add (pJ_g (pM_L hS rfl rfl (pJ_add (pJ_g hS rfl rfl) (pJ_add hp1 hp3))) rfl rfl) hp3))) (fun q48 => (l_X10_takeIn_51 rfl))) rfl)))
def g_X10_zoneShortOf_33 (v2 : Int) (S : MZ) : Option (Int × MZ) := (some (v2, S))
theorem l_X10_zoneShortOf_33 {v2 : Int32} {v2' : Int} (hv2 : tI v2 = v2') {S : Mem} {S' : MZ} (hS : tz S = S') : Lf tI (f_X10_zoneShortOf_33 v2 S) = g_X10_zoneShortOf_33 v2' S' := by
  unfold f_X10_zoneShortOf_33 g_X10_zoneShortOf_33
  exact (Lf_some hv2 hS)
def g_X10_zoneShortOf_12B (k12 : Int → MZ → Option (Int × MZ)) (v2 : Int) (S : MZ) : Option (Int × MZ) := (if v2 ≤ 0 then (g_X10_zoneShortOf_33 v2 S) else ((g_X0_rootAt v2 S).bind fun q17 => (if q17.1 ≤ (zI q17.2 4 5) then (g_X10_zoneShortOf_33 v2 q17.2) else (k12 (w32 (v2 + (-1))) q17.2))))
theorem l_X10_zoneShortOf_12B {k12 : Int32 → Mem → Option (Int32 × Mem)} {k12' : Int → MZ → Option (Int × MZ)} (hk12 : ∀ {x0 : Int32} {x1 : Mem} {y0 : Int} {y1 : MZ}, tI x0 = y0 → tz x1 = y1 → Lf tI (k12 x0 x1) = k12' y0 y1) {v2 : Int32} {v2' : Int} (hv2 : tI v2 = v2') {S : Mem} {S' : MZ} (hS : tz S = S') : Lf tI (f_X10_zoneShortOf_12B k12 v2 S) = g_X10_zoneShortOf_12B k12' v2' S' := by
  unfold f_X10_zoneShortOf_12B g_X10_zoneShortOf_12B
  exact (Lf_if (cI_le hv2 rfl) (l_X10_zoneShortOf_33 hv2 hS) (Lf_bind (l_X0_rootAt hv2 hS) (fun q17 => (Lf_if (cI_le rfl (pI_g rfl rfl rfl)) (l_X10_zoneShortOf_33 hv2 rfl) (hk12 (pI_add hv2 rfl) rfl)))))
def g_X10_zoneShortOf_12 : Nat → Int → MZ → Option (Int × MZ)
  | 0 => fun _ _ => none
  | n + 1 => g_X10_zoneShortOf_12B (g_X10_zoneShortOf_12 n)
theorem l_X10_zoneShortOf_12 : ∀ (n : Nat) {x0 : Int32} {x1 : Mem} {y0 : Int} {y1 : MZ}, tI x0 = y0 → tz x1 = y1 → Lf tI (f_X10_zoneShortOf_12 n x0 x1) = g_X10_zoneShortOf_12 n y0 y1
  | 0, _, _, _, _, _, _ => rfl
  | n + 1, _, _, _, _, e0, e1 => l_X10_zoneShortOf_12B (fun de0 de1 => l_X10_zoneShortOf_12 n de0 de1) e0 e1
def g_X10_zoneShortOf_61 (v2 : Int) (S : MZ) : Option (Int × MZ) := (some (v2, S))
theorem l_X10_zoneShortOf_61 {v2 : Int32} {v2' : Int} (hv2 : tI v2 = v2') {S : Mem} {S' : MZ} (hS : tz S = S') : Lf tI (f_X10_zoneShortOf_61 v2 S) = g_X10_zoneShortOf_61 v2' S' := by
  unfold f_X10_zoneShortOf_61 g_X10_zoneShortOf_61
  exact (Lf_some hv2 hS)
def g_X10_zoneShortOf_35B (k35 : Int → Int → MZ → Option (Int × MZ)) (v1 : Int) (v2 : Int) (S : MZ) : Option (Int × MZ) := (if v1 ≤ (w32 (v2 + 1)) then (g_X10_zoneShortOf_61 v2 S) else ((g_X0_rootAt (w32 (v2 + 1)) S).bind fun q45 => (if (zI q45.2 4 5) < q45.1 then (g_X10_zoneShortOf_61 v2 q45.2) else (k35 v1 (w32 (v2 + 1)) q45.2))))
theorem l_X10_zoneShortOf_35B {k35 : Int32 → Int32 → Mem → Option (Int32 × Mem)} {k35' : Int → Int → MZ → Option (Int × MZ)} (hk35 : ∀ {x0 : Int32} {x1 : Int32} {x2 : Mem} {y0 : Int} {y1 : Int} {y2 : MZ}, tI x0 = y0 → tI x1 = y1 → tz x2 = y2 → Lf tI (k35 x0 x1 x2) = k35' y0 y1 y2) {v1 : Int32} {v1' : Int} (hv1 : tI v1 = v1') {v2 : Int32} {v2' : Int} (hv2 : tI v2 = v2') {S : Mem} {S' : MZ} (hS : tz S = S') : Lf tI (f_X10_zoneShortOf_35B k35 v1 v2 S) = g_X10_zoneShortOf_35B k35' v1' v2' S' := by
  unfold f_X10_zoneShortOf_35B g_X10_zoneShortOf_35B
  exact (Lf_if (cI_le hv1 (pI_add hv2 rfl)) (l_X10_zoneShortOf_61 hv2 hS) (Lf_bind (l_X0_rootAt (pI_add hv2 rfl) hS) (fun q45 => (Lf_if (cI_lt (pI_g rfl rfl rfl) rfl) (l_X10_zoneShortOf_61 hv2 rfl) (hk35 hv1 (pI_add hv2 rfl) rfl)))))
def g_X10_zoneShortOf_35 : Nat → Int → Int → MZ → Option (Int × MZ)
  | 0 => fun _ _ _ => none
  | n + 1 => g_X10_zoneShortOf_35B (g_X10_zoneShortOf_35 n)
theorem l_X10_zoneShortOf_35 : ∀ (n : Nat) {x0 : Int32} {x1 : Int32} {x2 : Mem} {y0 : Int} {y1 : Int} {y2 : MZ}, tI x0 = y0 → tI x1 = y1 → tz x2 = y2 → Lf tI (f_X10_zoneShortOf_35 n x0 x1 x2) = g_X10_zoneShortOf_35 n y0 y1 y2
  | 0, _, _, _, _, _, _, _, _, _ => rfl
  | n + 1, _, _, _, _, _, _, e0, e1, e2 => l_X10_zoneShortOf_35B (fun de0 de1 de2 => l_X10_zoneShortOf_35 n de0 de1 de2) e0 e1 e2
def g_X10_zoneShortOf_5 (v1 : Int) (v2 : Int) (S : MZ) : Option (Int × MZ) := (if (zI S 4 3) = 0 then (g_X10_zoneShortOf_12 100000 v2 S) else (g_X10_zoneShortOf_35 100000 v1 v2 S))
theorem l_X10_zoneShortOf_5 {v1 : Int32} {v1' : Int} (hv1 : tI v1 = v1') {v2 : Int32} {v2' : Int} (hv2 : tI v2 = v2') {S : Mem} {S' : MZ} (hS : tz S = S') : Lf tI (f_X10_zoneShortOf_5 v1 v2 S) = g_X10_zoneShortOf_5 v1' v2' S' := by
  unfold f_X10_zoneShortOf_5 g_X10_zoneShortOf_5
  exact (Lf_if (cI_eq (pI_g hS rfl rfl) rfl) (l_X10_zoneShortOf_12 100000 hv2 hS) (l_X10_zoneShortOf_35 100000 hv1 hv2 hS))
def g_X10_zoneShortOf (p1 : Int) (S : MZ) : Option (Int × MZ) := (g_X10_zoneShortOf_5 p1 (zI S 4 8) S)
theorem l_X10_zoneShortOf {p1 : Int32} {p1' : Int} (hp1 : tI p1 = p1') {S : Mem} {S' : MZ} (hS : tz S = S') : Lf tI (f_X10_zoneShortOf p1 S) = g_X10_zoneShortOf p1' S' := by
  unfold f_X10_zoneShortOf g_X10_zoneShortOf
  exact (l_X10_zoneShortOf_5 hp1 (pI_g hS rfl rfl) hS)
def g_X10_arrive_117 (S : MZ) : Option (Unit × MZ) := (some ((), S))
theorem l_X10_arrive_117 {S : Mem} {S' : MZ} (hS : tz S = S') : Lf tU (f_X10_arrive_117 S) = g_X10_arrive_117 S' := by
  unfold f_X10_arrive_117 g_X10_arrive_117
  exact (Lf_some rfl hS)
def g_X10_arrive_88 (S : MZ) : Option (Unit × MZ) := (if (zI S 4 4) = 0 then (g_X10_arrive_117 S) else (if kd (zR S 4 1) = (3, 12) then (if kd (zR (uI S (zR S 4 1) 5 (zI S 4 5)) 4 1) = (3, 12) then (g_X10_arrive_117 (uI (uI S (zR S 4 1) 5 (zI S 4 5)) (zR (uI S (zR S 4 1) 5 (zI S 4 5)) 4 1) 6 (zI (uI S (zR S 4 1) 5 (zI S 4 5)) 4 8))) else none) else none))
theorem l_X10_arrive_88 {S : Mem} {S' : MZ} (hS : tz S = S') : Lf tU (f_X10_arrive_88 S) = g_X10_arrive_88 S' := by
  unfold f_X10_arrive_88 g_X10_arrive_88
  exact (Lf_if (cI_eq (pI_g hS rfl rfl) rfl) (l_X10_arrive_117 hS) (Lf_if (c_kd (pR_g hS rfl rfl)) (Lf_if (c_kd (pR_g (pM_I hS (pR_g hS rfl rfl) rfl (pI_g hS rfl rfl)) rfl rfl)) (l_X10_arrive_117 (pM_I (pM_I hS (pR_g hS rfl rfl) rfl (pI_g hS rfl rfl)) (pR_g (pM_I hS (pR_g hS rfl rfl) rfl (pI_g hS rfl rfl)) rfl rfl) rfl (pI_g (pM_I hS (pR_g hS rfl rfl) rfl (pI_g hS rfl rfl)) rfl rfl))) rfl) rfl))
def g_X10_arrive_33 (s0 : Int) (S : MZ) : Option (Unit × MZ) := (g_X10_arrive_88 (uI S 4 8 s0))
theorem l_X10_arrive_33 {s0 : Int32} {s0' : Int} (hs0 : tI s0 = s0') {S : Mem} {S' : MZ} (hS : tz S = S') : Lf tU (f_X10_arrive_33 s0 S) = g_X10_arrive_33 s0' S' := by
  unfold f_X10_arrive_33 g_X10_arrive_33
  exact (l_X10_arrive_88 (pM_I hS rfl rfl hs0))
def g_X10_arrive_73 (s0 : Int) (S : MZ) : Option (Unit × MZ) := (g_X10_arrive_88 (uI S 4 8 s0))
theorem l_X10_arrive_73 {s0 : Int32} {s0' : Int} (hs0 : tI s0 = s0') {S : Mem} {S' : MZ} (hS : tz S = S') : Lf tU (f_X10_arrive_73 s0 S) = g_X10_arrive_73 s0' S' := by
  unfold f_X10_arrive_73 g_X10_arrive_73
  exact (l_X10_arrive_88 (pM_I hS rfl rfl hs0))
def g_X10_arrive_39 (v1 : Int) (v3 : Int) (S : MZ) : Option (Unit × MZ) := (if v3 = 0 then ((g_X10_zoneShortOf v1 S).bind fun q82 => (g_X10_arrive_88 (uI q82.2 4 8 q82.1))) else (if (zI (uI (uI S 4 7 v1) 4 9 (w32 ((zI (uI S 4 7 v1) 4 9) + 1))) 4 3) = 0 then (g_X10_arrive_73 (w32 (v1 - 1)) (uI (uI S 4 7 v1) 4 9 (w32 ((zI (uI S 4 7 v1) 4 9) + 1)))) else (g_X10_arrive_73 v1 (uI (uI S 4 7 v1) 4 9 (w32 ((zI (uI S 4 7 v1) 4 9) + 1))))))
theorem l_X10_arrive_39 {v1 : Int32} {v1' : Int} (hv1 : tI v1 = v1') {v3 : Int32} {v3' : Int} (hv3 : tI v3 = v3') {S : Mem} {S' : MZ} (hS : tz S = S') : Lf tU (f_X10_arrive_39 v1 v3 S) = g_X10_arrive_39 v1' v3' S' := by
  unfold f_X10_arrive_39 g_X10_arrive_39
  exact (Lf_if (cI_eq hv3 rfl) (Lf_bind (l_X10_zoneShortOf hv1 hS) (fun q82 => (l_X10_arrive_88 (pM_I rfl rfl rfl rfl)))) (Lf_if (cI_eq (pI_g (pM_I (pM_I hS rfl rfl hv1) rfl rfl (pI_add (pI_g (pM_I hS rfl rfl hv1) rfl rfl) rfl)) rfl rfl) rfl) (l_X10_arrive_73 (pI_sub hv1 rfl) (pM_I (pM_I hS rfl rfl hv1) rfl rfl (pI_add (pI_g (pM_I hS rfl rfl hv1) rfl rfl) rfl))) (l_X10_arrive_73 hv1 (pM_I (pM_I hS rfl rfl hv1) rfl rfl (pI_add (pI_g (pM_I hS rfl rfl hv1) rfl rfl) rfl)))))
def g_X10_arrive (p1 : Int) (p2 : Int) (p3 : Int) (S : MZ) : Option (Unit × MZ) := (if p3 = 0 then (g_X10_arrive_39 p1 p3 (uI S 4 7 (-1))) else (if p2 = 0 then (g_X10_arrive_39 p1 p3 (uI S 4 7 (-1))) else (if (zI (uI (uI S 4 7 (-1)) 4 6 1) 4 3) = 0 then (g_X10_arrive_33 p1 (uI (uI S 4 7 (-1)) 4 6 1)) else (g_X10_arrive_33 (w32 (p1 - 1)) (uI (uI S 4 7 (-1)) 4 6 1)))))
theorem l_X10_arrive {p1 : Int32} {p1' : Int} (hp1 : tI p1 = p1') {p2 : Int32} {p2' : Int} (hp2 : tI p2 = p2') {p3 : Int32} {p3' : Int} (hp3 : tI p3 = p3') {S : Mem} {S' : MZ} (hS : tz S = S') : Lf tU (f_X10_arrive p1 p2 p3 S) = g_X10_arrive p1' p2' p3' S' := by
  unfold f_X10_arrive g_X10_arrive
  exact (Lf_if (cI_eq hp3 rfl) (l_X10_arrive_39 hp1 hp3 (pM_I hS rfl rfl rfl)) (Lf_if (cI_eq hp2 rfl) (l_X10_arrive_39 hp1 hp3 (pM_I hS rfl rfl rfl)) (Lf_if (cI_eq (pI_g (pM_I (pM_I hS rfl rfl rfl) rfl rfl rfl) rfl rfl) rfl) (l_X10_arrive_33 hp1 (pM_I (pM_I hS rfl rfl rfl) rfl rfl rfl)) (l_X10_arrive_33 (pI_sub hp1 rfl) (pM_I (pM_I hS rfl rfl rfl) rfl rfl rfl)))))
def g_X10_pourStep_249 (v12 : Int) (s0 : Int) (s1 : Int) (S : MZ) : Option (Unit × MZ) := ((g_X10_arrive s1 s0 v12 S).bind fun q251 => (some ((), q251.2)))
theorem l_X10_pourStep_249 {v12 : Int32} {v12' : Int} (hv12 : tI v12 = v12') {s0 : Int32} {s0' : Int} (hs0 : tI s0 = s0') {s1 : Int32} {s1' : Int} (hs1 : tI s1 = s1') {S : Mem} {S' : MZ} (hS : tz S = S') : Lf tU (f_X10_pourStep_249 v12 s0 s1 S) = g_X10_pourStep_249 v12' s0' s1' S' := by
  unfold f_X10_pourStep_249 g_X10_pourStep_249
  exact (Lf_bind (l_X10_arrive hs1 hs0 hv12 hS) (fun q251 => (Lf_some rfl rfl)))
def g_X10_pourStep_197 (v1 : Int) (v2 : Int) (v4 : Int) (v6 : Int) (v12 : Int) (v13 : Int) (v15 : Int) (s0 : Int) (s1 : Int) (S : MZ) : Option (Unit × MZ) := ((g_X0_between s0 v6 v4 (zI S 4 5) 0 S).bind fun q208 => ((g_X10_takeIn v13 v15 (uL (uL q208.2 4 11 (w64 (s1 + q208.1))) 4 10 (w64 ((zL (uL q208.2 4 11 (w64 (s1 + q208.1))) 4 10) - (w64 (v13 + v15)))))).bind fun q234 => (if v2 = v1 then (g_X10_pourStep_249 v12 1 v2 q234.2) else (g_X10_pourStep_249 v12 0 v2 q234.2))))
theorem l_X10_pourStep_197 {v1 : Int32} {v1' : Int} (hv1 : tI v1 = v1') {v2 : Int32} {v2' : Int} (hv2 : tI v2 = v2') {v4 : Int32} {v4' : Int} (hv4 : tI v4 = v4') {v6 : Int64} {v6' : Int} (hv6 : tJ v6 = v6') {v12 : Int32} {v12' : Int} (hv12 : tI v12 = v12') {v13 : Int64} {v13' : Int} (hv13 : tJ v13 = v13') {v15 : Int64} {v15' : Int} (hv15 : tJ v15 = v15') {s0 : Int32} {s0' : Int} (hs0 : tI s0 = s0') {s1 : Int64} {s1' : Int} (hs1 : tJ s1 = s1') {S : Mem} {S' : MZ} (hS : tz S = S') : Lf tU (f_X10_pourStep_197 v1 v2 v4 v6 v12 v13 v15 s0 s1 S) = g_X10_pourStep_197 v1' v2' v4' v6' v12' v13' v15' s0' s1' S' := by
  unfold f_X10_pourStep_197 g_X10_pourStep_197
  exact (Lf_bind (l_X0_between hs0 hv6 (pJ_of hv4) (pJ_of (pI_g hS rfl rfl)) rfl hS) (fun q208 => (Lf_bind (l_X10_takeIn hv13 hv15 (pM_L (pM_L rfl rfl rfl (pJ_add hs1 rfl)) rfl rfl (pJ_sub (pJ_g (pM_L rfl rfl rfl (pJ_add hs1 rfl)) rfl rfl) (pJ_add hv13 hv15)))) (fun q234 => (Lf_if (cI_eq hv2 hv1) (l_X10_pourStep_249 hv12 rfl hv2 rfl) (l_X10_pourStep_249 hv12 rfl hv2 rfl))))))
def g_X10_pourStep_177 (v1 : Int) (v2 : Int) (v4 : Int) (v6 : Int) (v12 : Int) (v13 : Int) (v15 : Int) (s0 : Int) (S : MZ) : Option (Unit × MZ) := (if (zI (uI S 4 5 s0) 4 3) = 0 then (g_X10_pourStep_197 v1 v2 v4 v6 v12 v13 v15 0 (zL (uI S 4 5 s0) 4 11) (uI S 4 5 s0)) else (g_X10_pourStep_197 v1 v2 v4 v6 v12 v13 v15 1 (zL (uI S 4 5 s0) 4 11) (uI S 4 5 s0)))
theorem l_X10_pourStep_177 {v1 : Int32} {v1' : Int} (hv1 : tI v1 = v1') {v2 : Int32} {v2' : Int} (hv2 : tI v2 = v2') {v4 : Int32} {v4' : Int} (hv4 : tI v4 = v4') {v6 : Int64} {v6' : Int} (hv6 : tJ v6 = v6') {v12 : Int32} {v12' : Int} (hv12 : tI v12 = v12') {v13 : Int64} {v13' : Int} (hv13 : tJ v13 = v13') {v15 : Int64} {v15' : Int} (hv15 : tJ v15 = v15') {s0 : Int32} {s0' : Int} (hs0 : tI s0 = s0') {S : Mem} {S' : MZ} (hS : tz S = S') : Lf tU (f_X10_pourStep_177 v1 v2 v4 v6 v12 v13 v15 s0 S) = g_X10_pourStep_177 v1' v2' v4' v6' v12' v13' v15' s0' S' := by
  unfold f_X10_pourStep_177 g_X10_pourStep_177
  exact (Lf_if (cI_eq (pI_g (pM_I hS rfl rfl hs0) rfl rfl) rfl) (l_X10_pourStep_197 hv1 hv2 hv4 hv6 hv12 hv13 hv15 rfl (pJ_g (pM_I hS rfl rfl hs0) rfl rfl) (pM_I hS rfl rfl hs0)) (l_X10_pourStep_197 hv1 hv2 hv4 hv6 hv12 hv13 hv15 rfl (pJ_g (pM_I hS rfl rfl hs0) rfl rfl) (pM_I hS rfl rfl hs0)))
def g_X10_pourStep_149 (v1 : Int) (v2 : Int) (v3 : Int) (v4 : Int) (v6 : Int) (v10 : Int) (v12 : Int) (v13 : Int) (s0 : Int) (S : MZ) : Option (Unit × MZ) := (if v12 = 0 then ((g_X0_rootBehindIn (zI S 4 3) v6 (zI S 4 5) v10 S).bind fun q174 => (g_X10_pourStep_177 v1 v2 v4 v6 v12 v13 s0 q174.1 q174.2)) else (g_X10_pourStep_177 v1 v2 v4 v6 v12 v13 s0 v3 S))
theorem l_X10_pourStep_149 {v1 : Int32} {v1' : Int} (hv1 : tI v1 = v1') {v2 : Int32} {v2' : Int} (hv2 : tI v2 = v2') {v3 : Int32} {v3' : Int} (hv3 : tI v3 = v3') {v4 : Int32} {v4' : Int} (hv4 : tI v4 = v4') {v6 : Int64} {v6' : Int} (hv6 : tJ v6 = v6') {v10 : Int64} {v10' : Int} (hv10 : tJ v10 = v10') {v12 : Int32} {v12' : Int} (hv12 : tI v12 = v12') {v13 : Int64} {v13' : Int} (hv13 : tJ v13 = v13') {s0 : Int64} {s0' : Int} (hs0 : tJ s0 = s0') {S : Mem} {S' : MZ} (hS : tz S = S') : Lf tU (f_X10_pourStep_149 v1 v2 v3 v4 v6 v10 v12 v13 s0 S) = g_X10_pourStep_149 v1' v2' v3' v4' v6' v10' v12' v13' s0' S' := by
  unfold f_X10_pourStep_149 g_X10_pourStep_149
  exact (Lf_if (cI_eq hv12 rfl) (Lf_bind (l_X0_rootBehindIn (pI_g hS rfl rfl) hv6 (pJ_of (pI_g hS rfl rfl)) hv10 hS) (fun q174 => (l_X10_pourStep_177 hv1 hv2 hv4 hv6 hv12 hv13 hs0 rfl rfl))) (l_X10_pourStep_177 hv1 hv2 hv4 hv6 hv12 hv13 hs0 hv3 hS))
def g_X10_pourStep_115 (v1 : Int) (v2 : Int) (v3 : Int) (v4 : Int) (v5 : Int) (v6 : Int) (v8 : Int) (v10 : Int) (v12 : Int) (s0 : Int) (S : MZ) : Option (Unit × MZ) := (if v12 = 0 then (g_X10_pourStep_149 v1 v2 v3 v4 v6 v10 v12 s0 (w64 ((zL S 4 10) - v10)) S) else (if kd (zR S 4 1) = (3, 12) then ((g_X0_upwards (w64 (v8 * (zI S (zR S 4 1) 2))) v5 S).bind fun q136 => (g_X10_pourStep_149 v1 v2 v3 v4 v6 v10 v12 s0 q136.1 q136.2)) else none))
theorem l_X10_pourStep_115 {v1 : Int32} {v1' : Int} (hv1 : tI v1 = v1') {v2 : Int32} {v2' : Int} (hv2 : tI v2 = v2') {v3 : Int32} {v3' : Int} (hv3 : tI v3 = v3') {v4 : Int32} {v4' : Int} (hv4 : tI v4 = v4') {v5 : Int32} {v5' : Int} (hv5 : tI v5 = v5') {v6 : Int64} {v6' : Int} (hv6 : tJ v6 = v6') {v8 : Int64} {v8' : Int} (hv8 : tJ v8 = v8') {v10 : Int64} {v10' : Int} (hv10 : tJ v10 = v10') {v12 : Int32} {v12' : Int} (hv12 : tI v12 = v12') {s0 : Int64} {s0' : Int} (hs0 : tJ s0 = s0') {S : Mem} {S' : MZ} (hS : tz S = S') : Lf tU (f_X10_pourStep_115 v1 v2 v3 v4 v5 v6 v8 v10 v12 s0 S) = g_X10_pourStep_115 v1' v2' v3' v4' v5' v6' v8' v10' v12' s0' S' := by
  unfold f_X10_pourStep_115 g_X10_pourStep_115
  exact (Lf_if (cI_eq hv12 rfl) (l_X10_pourStep_149 hv1 hv2 hv3 hv4 hv6 hv10 hv12 hs0 (pJ_sub (pJ_g hS rfl rfl) hv10) hS) (Lf_if (c_kd (pR_g hS rfl rfl)) (Lf_bind (l_X0_upwards (pJ_mul hv8 (pJ_of (pI_g hS (pR_g hS rfl rfl) rfl))) (pJ_of hv5) hS) (fun q136 => (l_X10_pourStep_149 hv1 hv2 hv3 hv4 hv6 hv10 hv12 hs0 rfl rfl))) rfl))
def g_X10_pourStep_101 (v1 : Int) (v2 : Int) (v3 : Int) (v4 : Int) (v5 : Int) (v6 : Int) (v8 : Int) (v10 : Int) (s0 : Int) (S : MZ) : Option (Unit × MZ) := (if s0 = 0 then (g_X10_pourStep_115 v1 v2 v3 v4 v5 v6 v8 v10 s0 v10 S) else (g_X10_pourStep_115 v1 v2 v3 v4 v5 v6 v8 v10 s0 v8 S))
theorem l_X10_pourStep_101 {v1 : Int32} {v1' : Int} (hv1 : tI v1 = v1') {v2 : Int32} {v2' : Int} (hv2 : tI v2 = v2') {v3 : Int32} {v3' : Int} (hv3 : tI v3 = v3') {v4 : Int32} {v4' : Int} (hv4 : tI v4 = v4') {v5 : Int32} {v5' : Int} (hv5 : tI v5 = v5') {v6 : Int64} {v6' : Int} (hv6 : tJ v6 = v6') {v8 : Int64} {v8' : Int} (hv8 : tJ v8 = v8') {v10 : Int64} {v10' : Int} (hv10 : tJ v10 = v10') {s0 : Int32} {s0' : Int} (hs0 : tI s0 = s0') {S : Mem} {S' : MZ} (hS : tz S = S') : Lf tU (f_X10_pourStep_101 v1 v2 v3 v4 v5 v6 v8 v10 s0 S) = g_X10_pourStep_101 v1' v2' v3' v4' v5' v6' v8' v10' s0' S' := by
  unfold f_X10_pourStep_101 g_X10_pourStep_101
  exact (Lf_if (cI_eq hs0 rfl) (l_X10_pourStep_115 hv1 hv2 hv3 hv4 hv5 hv6 hv8 hv10 hs0 hv10 hS) (l_X10_pourStep_115 hv1 hv2 hv3 hv4 hv5 hv6 hv8 hv10 hs0 hv8 hS))
def g_X10_pourStep_88 (v1 : Int) (v2 : Int) (v3 : Int) (v4 : Int) (v5 : Int) (v6 : Int) (v8 : Int) (v10 : Int) (S : MZ) : Option (Unit × MZ) := (if v10 < v8 then (g_X10_pourStep_101 v1 v2 v3 v4 v5 v6 v8 v10 0 S) else (g_X10_pourStep_101 v1 v2 v3 v4 v5 v6 v8 v10 1 S))
theorem l_X10_pourStep_88 {v1 : Int32} {v1' : Int} (hv1 : tI v1 = v1') {v2 : Int32} {v2' : Int} (hv2 : tI v2 = v2') {v3 : Int32} {v3' : Int} (hv3 : tI v3 = v3') {v4 : Int32} {v4' : Int} (hv4 : tI v4 = v4') {v5 : Int32} {v5' : Int} (hv5 : tI v5 = v5') {v6 : Int64} {v6' : Int} (hv6 : tJ v6 = v6') {v8 : Int64} {v8' : Int} (hv8 : tJ v8 = v8') {v10 : Int64} {v10' : Int} (hv10 : tJ v10 = v10') {S : Mem} {S' : MZ} (hS : tz S = S') : Lf tU (f_X10_pourStep_88 v1 v2 v3 v4 v5 v6 v8 v10 S) = g_X10_pourStep_88 v1' v2' v3' v4' v5' v6' v8' v10' S' := by
  unfold f_X10_pourStep_88 g_X10_pourStep_88
  exact (Lf_if (cJ_lt hv10 hv8) (l_X10_pourStep_101 hv1 hv2 hv3 hv4 hv5 hv6 hv8 hv10 rfl hS) (l_X10_pourStep_101 hv1 hv2 hv3 hv4 hv5 hv6 hv8 hv10 rfl hS))
def g_X10_pourStep_59 (v1 : Int) (v2 : Int) (v3 : Int) (v4 : Int) (v5 : Int) (v6 : Int) (s0 : Int) (S : MZ) : Option (Unit × MZ) := ((g_X0_between s0 v6 (zI S 4 5) v3 1 S).bind fun q69 => (g_X10_pourStep_88 v1 v2 v3 v4 v5 v6 q69.1 (w64 (Int.tdiv (w64 ((zL q69.2 4 10) * v5)) 1000)) q69.2))
theorem l_X10_pourStep_59 {v1 : Int32} {v1' : Int} (hv1 : tI v1 = v1') {v2 : Int32} {v2' : Int} (hv2 : tI v2 = v2') {v3 : Int32} {v3' : Int} (hv3 : tI v3 = v3') {v4 : Int32} {v4' : Int} (hv4 : tI v4 = v4') {v5 : Int32} {v5' : Int} (hv5 : tI v5 = v5') {v6 : Int64} {v6' : Int} (hv6 : tJ v6 = v6') {s0 : Int32} {s0' : Int} (hs0 : tI s0 = s0') {S : Mem} {S' : MZ} (hS : tz S = S') : Lf tU (f_X10_pourStep_59 v1 v2 v3 v4 v5 v6 s0 S) = g_X10_pourStep_59 v1' v2' v3' v4' v5' v6' s0' S' := by
  unfold f_X10_pourStep_59 g_X10_pourStep_59
  exact (Lf_bind (l_X0_between hs0 hv6 (pJ_of (pI_g hS rfl rfl)) (pJ_of hv3) rfl hS) (fun q69 => (l_X10_pourStep_88 hv1 hv2 hv3 hv4 hv5 hv6 rfl (pJ_div (pJ_mul (pJ_g rfl rfl rfl) (pJ_of hv5)) rfl) rfl)))
def g_X10_pourStep_30 (v1 : Int) (v2 : Int) (v3 : Int) (v4 : Int) (v5 : Int) (S : MZ) : Option (Unit × MZ) := (if kd (zR S 4 0) = (1, 9) then ((g_X2_liquidityAt (zR S 4 0) (zI S 4 2) (zI S 4 8) S).bind fun q42 => (if (zI q42.2 4 3) = 0 then (g_X10_pourStep_59 v1 v2 v3 v4 v5 q42.1 1 q42.2) else (g_X10_pourStep_59 v1 v2 v3 v4 v5 q42.1 0 q42.2))) else none)
theorem l_X10_pourStep_30 {v1 : Int32} {v1' : Int} (hv1 : tI v1 = v1') {v2 : Int32} {v2' : Int} (hv2 : tI v2 = v2') {v3 : Int32} {v3' : Int} (hv3 : tI v3 = v3') {v4 : Int32} {v4' : Int} (hv4 : tI v4 = v4') {v5 : Int32} {v5' : Int} (hv5 : tI v5 = v5') {S : Mem} {S' : MZ} (hS : tz S = S') : Lf tU (f_X10_pourStep_30 v1 v2 v3 v4 v5 S) = g_X10_pourStep_30 v1' v2' v3' v4' v5' S' := by
  unfold f_X10_pourStep_30 g_X10_pourStep_30
  exact (Lf_if (c_kd (pR_g hS rfl rfl)) (Lf_bind (l_X2_liquidityAt (pR_g hS rfl rfl) (pI_g hS rfl rfl) (pI_g hS rfl rfl) hS) (fun q42 => (Lf_if (cI_eq (pI_g rfl rfl rfl) rfl) (l_X10_pourStep_59 hv1 hv2 hv3 hv4 hv5 rfl rfl rfl) (l_X10_pourStep_59 hv1 hv2 hv3 hv4 hv5 rfl rfl rfl)))) rfl)
def g_X10_pourStep_17 (v1 : Int) (v2 : Int) (v3 : Int) (v4 : Int) (S : MZ) : Option (Unit × MZ) := (if kd (zR S 4 1) = (3, 12) then (g_X10_pourStep_30 v1 v2 v3 v4 (w32 (1000 - (zI S (zR S 4 1) 2))) S) else none)
theorem l_X10_pourStep_17 {v1 : Int32} {v1' : Int} (hv1 : tI v1 = v1') {v2 : Int32} {v2' : Int} (hv2 : tI v2 = v2') {v3 : Int32} {v3' : Int} (hv3 : tI v3 = v3') {v4 : Int32} {v4' : Int} (hv4 : tI v4 = v4') {S : Mem} {S' : MZ} (hS : tz S = S') : Lf tU (f_X10_pourStep_17 v1 v2 v3 v4 S) = g_X10_pourStep_17 v1' v2' v3' v4' S' := by
  unfold f_X10_pourStep_17 g_X10_pourStep_17
  exact (Lf_if (c_kd (pR_g hS rfl rfl)) (l_X10_pourStep_30 hv1 hv2 hv3 hv4 (pI_sub rfl (pI_g hS (pR_g hS rfl rfl) rfl)) hS) rfl)
def g_X10_pourStep (p1 : Int) (S : MZ) : Option (Unit × MZ) := ((g_X10_aimBefore p1 S).bind fun q2 => ((g_X0_rootAt q2.1 q2.2).bind fun q7 => (g_X10_pourStep_17 p1 q2.1 q7.1 (zI q7.2 4 5) q7.2)))
theorem l_X10_pourStep {p1 : Int32} {p1' : Int} (hp1 : tI p1 = p1') {S : Mem} {S' : MZ} (hS : tz S = S') : Lf tU (f_X10_pourStep p1 S) = g_X10_pourStep p1' S' := by
  unfold f_X10_pourStep g_X10_pourStep
  exact (Lf_bind (l_X10_aimBefore hp1 hS) (fun q2 => (Lf_bind (l_X0_rootAt rfl rfl) (fun q7 => (l_X10_pourStep_17 hp1 rfl rfl (pI_g rfl rfl rfl) rfl)))))
def g_X2_stakeAt_31 (s0 : Nat) (S : MZ) : Option (Nat × MZ) := (some (s0, S))
theorem l_X2_stakeAt_31 {s0 : Nat} {s0' : Nat} (hs0 : s0 = s0') {S : Mem} {S' : MZ} (hS : tz S = S') : Lf tR (f_X2_stakeAt_31 s0 S) = g_X2_stakeAt_31 s0' S' := by
  unfold f_X2_stakeAt_31 g_X2_stakeAt_31
  exact (Lf_some hs0 hS)
def g_X2_stakeAt_30 (S : MZ) : Option (Nat × MZ) := (g_X2_stakeAt_31 0 S)
theorem l_X2_stakeAt_30 {S : Mem} {S' : MZ} (hS : tz S = S') : Lf tR (f_X2_stakeAt_30 S) = g_X2_stakeAt_30 S' := by
  unfold f_X2_stakeAt_30 g_X2_stakeAt_30
  exact (l_X2_stakeAt_31 rfl hS)
def g_X2_stakeAt (h0 : Nat) (p1 : Int) (S : MZ) : Option (Nat × MZ) := (if p1 < 0 then (g_X2_stakeAt_30 S) else (if kd h0 = (1, 9) then (if (zI S h0 3) ≤ p1 then (g_X2_stakeAt_30 S) else (if 12 ≤ p1 then (g_X2_stakeAt_30 S) else (if (0 ≤ p1 ∧ p1 < ((12 : Nat) : Int)) then (g_X2_stakeAt_31 (zR S (h0 + 3) (p1).toNat) S) else none))) else none))
theorem l_X2_stakeAt {h0 : Nat} {h0' : Nat} (hh0 : h0 = h0') {p1 : Int32} {p1' : Int} (hp1 : tI p1 = p1') {S : Mem} {S' : MZ} (hS : tz S = S') : Lf tR (f_X2_stakeAt h0 p1 S) = g_X2_stakeAt h0' p1' S' := by
  unfold f_X2_stakeAt g_X2_stakeAt
  exact (Lf_if (cI_lt hp1 rfl) (l_X2_stakeAt_30 hS) (Lf_if (c_kd hh0) (Lf_if (cI_le (pI_g hS hh0 rfl) hp1) (l_X2_stakeAt_30 hS) (Lf_if (cI_le rfl hp1) (l_X2_stakeAt_30 hS) (Lf_if (c_inb hp1 rfl) (l_X2_stakeAt_31 (pR_g hS (pR_add hh0 rfl) (pN_of hp1)) hS) rfl))) rfl))
def g_X7_owed_9 (S : MZ) : Option (Int × MZ) := (some (0, S))
theorem l_X7_owed_9 {S : Mem} {S' : MZ} (hS : tz S = S') : Lf tJ (f_X7_owed_9 S) = g_X7_owed_9 S' := by
  unfold f_X7_owed_9 g_X7_owed_9
  exact (Lf_some rfl hS)
def g_X7_owed (h0 : Nat) (p1 : Int) (S : MZ) : Option (Int × MZ) := (if p1 < 0 then (g_X7_owed_9 S) else (if p1 ≤ 1 then (if kd h0 = (6, 8) then (if (0 ≤ p1 ∧ p1 < ((2 : Nat) : Int)) then (if (0 ≤ p1 ∧ p1 < ((2 : Nat) : Int)) then (some ((w64 ((zL S (h0 + 2) (p1).toNat) + (w64 (Int.tdiv (w64 ((zI S h0 5) * (zL S (h0 + 1) (p1).toNat))) 1048576)))), S)) else none) else none) else none) else (g_X7_owed_9 S)))
theorem l_X7_owed {h0 : Nat} {h0' : Nat} (hh0 : h0 = h0') {p1 : Int32} {p1' : Int} (hp1 : tI p1 = p1') {S : Mem} {S' : MZ} (hS : tz S = S') : Lf tJ (f_X7_owed h0 p1 S) = g_X7_owed h0' p1' S' := by
  unfold f_X7_owed g_X7_owed
  exact (Lf_if (cI_lt hp1 rfl) (l_X7_owed_9 hS) (Lf_if (cI_le hp1 rfl) (Lf_if (c_kd hh0) (Lf_if (c_inb hp1 rfl) (Lf_if (c_inb hp1 rfl) (Lf_some (pJ_add (pJ_g hS (pR_add hh0 rfl) (pN_of hp1)) (pJ_div (pJ_mul (pJ_of (pI_g hS hh0 rfl)) (pJ_g hS (pR_add hh0 rfl) (pN_of hp1))) rfl)) hS) rfl) rfl) rfl) (l_X7_owed_9 hS)))
def g_X7_settle_2B (k2 : Nat → Int → MZ → Option (Unit × MZ)) (v0 : Nat) (v1 : Int) (S : MZ) : Option (Unit × MZ) := (if 2 ≤ v1 then (some ((), S)) else (if kd v0 = (6, 8) then ((g_X7_owed v0 v1 S).bind fun q14 => (if (0 ≤ v1 ∧ v1 < ((2 : Nat) : Int)) then (if (0 ≤ v1 ∧ v1 < ((2 : Nat) : Int)) then (k2 v0 (w32 (v1 + 1)) (uL (uL q14.2 (v0 + 2) (v1).toNat q14.1) (v0 + 1) (v1).toNat 0)) else none) else none)) else none))
theorem l_X7_settle_2B {k2 : Nat → Int32 → Mem → Option (Unit × Mem)} {k2' : Nat → Int → MZ → Option (Unit × MZ)} (hk2 : ∀ {x0 : Nat} {x1 : Int32} {x2 : Mem} {y0 : Nat} {y1 : Int} {y2 : MZ}, x0 = y0 → tI x1 = y1 → tz x2 = y2 → Lf tU (k2 x0 x1 x2) = k2' y0 y1 y2) {v0 : Nat} {v0' : Nat} (hv0 : v0 = v0') {v1 : Int32} {v1' : Int} (hv1 : tI v1 = v1') {S : Mem} {S' : MZ} (hS : tz S = S') : Lf tU (f_X7_settle_2B k2 v0 v1 S) = g_X7_settle_2B k2' v0' v1' S' := by
  unfold f_X7_settle_2B g_X7_settle_2B
  exact (Lf_if (cI_le rfl hv1) (Lf_some rfl hS) (Lf_if (c_kd hv0) (Lf_bind (l_X7_owed hv0 hv1 hS) (fun q14 => (Lf_if (c_inb hv1 rfl) (Lf_if (c_inb hv1 rfl) (hk2 hv0 (pI_add hv1 rfl) (pM_L (pM_L rfl (pR_add hv0 rfl) (pN_of hv1) rfl) (pR_add hv0 rfl) (pN_of hv1) rfl)) rfl) rfl))) rfl))
def g_X7_settle_2 : Nat → Nat → Int → MZ → Option (Unit × MZ)
  | 0 => fun _ _ _ => none
  | n + 1 => g_X7_settle_2B (g_X7_settle_2 n)
theorem l_X7_settle_2 : ∀ (n : Nat) {x0 : Nat} {x1 : Int32} {x2 : Mem} {y0 : Nat} {y1 : Int} {y2 : MZ}, x0 = y0 → tI x1 = y1 → tz x2 = y2 → Lf tU (f_X7_settle_2 n x0 x1 x2) = g_X7_settle_2 n y0 y1 y2
  | 0, _, _, _, _, _, _, _, _, _ => rfl
  | n + 1, _, _, _, _, _, _, e0, e1, e2 => l_X7_settle_2B (fun de0 de1 de2 => l_X7_settle_2 n de0 de1 de2) e0 e1 e2
def g_X7_settle (h0 : Nat) (S : MZ) : Option (Unit × MZ) := (g_X7_settle_2 100000 h0 0 S)
theorem l_X7_settle {h0 : Nat} {h0' : Nat} (hh0 : h0 = h0') {S : Mem} {S' : MZ} (hS : tz S = S') : Lf tU (f_X7_settle h0 S) = g_X7_settle h0' S' := by
  unfold f_X7_settle g_X7_settle
  exact (l_X7_settle_2 100000 hh0 rfl hS)
def g_X7_liesIn_43 (v0 : Nat) (v2 : Int) (v5 : Int) (s0 : Int) (S : MZ) : Option (Int × MZ) := (if kd v0 = (6, 8) then ((g_X0_rootAt (zI S v0 3) S).bind fun q54 => ((g_X0_between 1 v2 s0 q54.1 v5 q54.2).bind fun q60 => (some (q60.1, q60.2)))) else none)
theorem l_X7_liesIn_43 {v0 : Nat} {v0' : Nat} (hv0 : v0 = v0') {v2 : Int64} {v2' : Int} (hv2 : tJ v2 = v2') {v5 : Int32} {v5' : Int} (hv5 : tI v5 = v5') {s0 : Int32} {s0' : Int} (hs0 : tI s0 = s0') {S : Mem} {S' : MZ} (hS : tz S = S') : Lf tJ (f_X7_liesIn_43 v0 v2 v5 s0 S) = g_X7_liesIn_43 v0' v2' v5' s0' S' := by
  unfold f_X7_liesIn_43 g_X7_liesIn_43
  exact (Lf_if (c_kd hv0) (Lf_bind (l_X0_rootAt (pI_g hS hv0 rfl) hS) (fun q54 => (Lf_bind (l_X0_between rfl hv2 (pJ_of hs0) (pJ_of rfl) hv5 rfl) (fun q60 => (Lf_some rfl rfl))))) rfl)
def g_X7_liesIn_102 (v0 : Nat) (v2 : Int) (v5 : Int) (s0 : Int) (S : MZ) : Option (Int × MZ) := (if kd v0 = (6, 8) then ((g_X0_rootAt (zI S v0 2) S).bind fun q110 => ((g_X0_between 0 v2 q110.1 s0 v5 q110.2).bind fun q119 => (some (q119.1, q119.2)))) else none)
theorem l_X7_liesIn_102 {v0 : Nat} {v0' : Nat} (hv0 : v0 = v0') {v2 : Int64} {v2' : Int} (hv2 : tJ v2 = v2') {v5 : Int32} {v5' : Int} (hv5 : tI v5 = v5') {s0 : Int32} {s0' : Int} (hs0 : tI s0 = s0') {S : Mem} {S' : MZ} (hS : tz S = S') : Lf tJ (f_X7_liesIn_102 v0 v2 v5 s0 S) = g_X7_liesIn_102 v0' v2' v5' s0' S' := by
  unfold f_X7_liesIn_102 g_X7_liesIn_102
  exact (Lf_if (c_kd hv0) (Lf_bind (l_X0_rootAt (pI_g hS hv0 rfl) hS) (fun q110 => (Lf_bind (l_X0_between rfl hv2 (pJ_of rfl) (pJ_of hs0) hv5 rfl) (fun q119 => (Lf_some rfl rfl))))) rfl)
def g_X7_liesIn (h0 : Nat) (p1 : Nat) (p2 : Int) (p4 : Int) (p5 : Int) (S : MZ) : Option (Int × MZ) := (if p4 = 0 then (if kd p1 = (3, 12) then (if kd h0 = (6, 8) then (if (zI S p1 6) < (zI S h0 3) then (if (zI S h0 2) ≤ (zI S p1 6) then (g_X7_liesIn_43 h0 p2 p5 (zI S p1 5) S) else ((g_X0_rootAt (zI S h0 2) S).bind fun q33 => (g_X7_liesIn_43 h0 p2 p5 q33.1 q33.2))) else (some (0, S))) else none) else none) else (if kd p1 = (3, 12) then (if kd h0 = (6, 8) then (if (zI S h0 2) ≤ (zI S p1 6) then (if (zI S p1 6) < (zI S h0 3) then (g_X7_liesIn_102 h0 p2 p5 (zI S p1 5) S) else ((g_X0_rootAt (zI S h0 3) S).bind fun q92 => (g_X7_liesIn_102 h0 p2 p5 q92.1 q92.2))) else (some (0, S))) else none) else none))
theorem l_X7_liesIn {h0 : Nat} {h0' : Nat} (hh0 : h0 = h0') {p1 : Nat} {p1' : Nat} (hp1 : p1 = p1') {p2 : Int64} {p2' : Int} (hp2 : tJ p2 = p2') {p4 : Int32} {p4' : Int} (hp4 : tI p4 = p4') {p5 : Int32} {p5' : Int} (hp5 : tI p5 = p5') {S : Mem} {S' : MZ} (hS : tz S = S') : Lf tJ (f_X7_liesIn h0 p1 p2 p4 p5 S) = g_X7_liesIn h0' p1' p2' p4' p5' S' := by
  unfold f_X7_liesIn g_X7_liesIn
  exact (Lf_if (cI_eq hp4 rfl) (Lf_if (c_kd hp1) (Lf_if (c_kd hh0) (Lf_if (cI_lt (pI_g hS hp1 rfl) (pI_g hS hh0 rfl)) (Lf_if (cI_le (pI_g hS hh0 rfl) (pI_g hS hp1 rfl)) (l_X7_liesIn_43 hh0 hp2 hp5 (pI_g hS hp1 rfl) hS) (Lf_bind (l_X0_rootAt (pI_g hS hh0 rfl) hS) (fun q33 => (l_X7_liesIn_43 hh0 hp2 hp5 rfl rfl)))) (Lf_some rfl hS)) rfl) rfl) (Lf_if (c_kd hp1) (Lf_if (c_kd hh0) (Lf_if (cI_le (pI_g hS hh0 rfl) (pI_g hS hp1 rfl)) (Lf_if (cI_lt (pI_g hS hp1 rfl) (pI_g hS hh0 rfl)) (l_X7_liesIn_102 hh0 hp2 hp5 (pI_g hS hp1 rfl) hS) (Lf_bind (l_X0_rootAt (pI_g hS hh0 rfl) hS) (fun q92 => (l_X7_liesIn_102 hh0 hp2 hp5 rfl rfl)))) (Lf_some rfl hS)) rfl) rfl))
def g_X2_putIntoPurse_33 (S : MZ) : Option (Unit × MZ) := (some ((), S))
theorem l_X2_putIntoPurse_33 {S : Mem} {S' : MZ} (hS : tz S = S') : Lf tU (f_X2_putIntoPurse_33 S) = g_X2_putIntoPurse_33 S' := by
  unfold f_X2_putIntoPurse_33 g_X2_putIntoPurse_33
  exact (Lf_some rfl hS)
def g_X2_putIntoPurse_7 (v0 : Nat) (v3 : Int) (v4 : Int) (S : MZ) : Option (Unit × MZ) := (if v4 < 0 then (g_X2_putIntoPurse_33 S) else (if kd v0 = (1, 9) then (if 20 ≤ v4 then (g_X2_putIntoPurse_33 S) else (if (0 ≤ v4 ∧ v4 < ((20 : Nat) : Int)) then (if (0 ≤ v4 ∧ v4 < ((20 : Nat) : Int)) then (g_X2_putIntoPurse_33 (uI S (v0 + 1) (v4).toNat (w32 ((zI S (v0 + 1) (v4).toNat) + v3)))) else none) else none)) else none))
theorem l_X2_putIntoPurse_7 {v0 : Nat} {v0' : Nat} (hv0 : v0 = v0') {v3 : Int32} {v3' : Int} (hv3 : tI v3 = v3') {v4 : Int32} {v4' : Int} (hv4 : tI v4 = v4') {S : Mem} {S' : MZ} (hS : tz S = S') : Lf tU (f_X2_putIntoPurse_7 v0 v3 v4 S) = g_X2_putIntoPurse_7 v0' v3' v4' S' := by
  unfold f_X2_putIntoPurse_7 g_X2_putIntoPurse_7
  exact (Lf_if (cI_lt hv4 rfl) (l_X2_putIntoPurse_33 hS) (Lf_if (c_kd hv0) (Lf_if (cI_le rfl hv4) (l_X2_putIntoPurse_33 hS) (Lf_if (c_inb hv4 rfl) (Lf_if (c_inb hv4 rfl) (l_X2_putIntoPurse_33 (pM_I hS (pR_add hv0 rfl) (pN_of hv4) (pI_add (pI_g hS (pR_add hv0 rfl) (pN_of hv4)) hv3))) rfl) rfl)) rfl))
def g_X2_putIntoPurse (h0 : Nat) (p1 : Int) (p2 : Int) (p3 : Int) (S : MZ) : Option (Unit × MZ) := (g_X2_putIntoPurse_7 h0 p3 (w32 ((w32 (p1 * 5)) + p2)) S)
theorem l_X2_putIntoPurse {h0 : Nat} {h0' : Nat} (hh0 : h0 = h0') {p1 : Int32} {p1' : Int} (hp1 : tI p1 = p1') {p2 : Int32} {p2' : Int} (hp2 : tI p2 = p2') {p3 : Int32} {p3' : Int} (hp3 : tI p3 = p3') {S : Mem} {S' : MZ} (hS : tz S = S') : Lf tU (f_X2_putIntoPurse h0 p1 p2 p3 S) = g_X2_putIntoPurse h0' p1' p2' p3' S' := by
  unfold f_X2_putIntoPurse g_X2_putIntoPurse
  exact (l_X2_putIntoPurse_7 hh0 hp3 (pI_add (pI_mul hp1 rfl) hp2) hS)
def g_X2_payOut_30 (S : MZ) : Option (Unit × MZ) := (some ((), S))
theorem l_X2_payOut_30 {S : Mem} {S' : MZ} (hS : tz S = S') : Lf tU (f_X2_payOut_30 S) = g_X2_payOut_30 S' := by
  unfold f_X2_payOut_30 g_X2_payOut_30
  exact (Lf_some rfl hS)
def g_X2_payOut (h0 : Nat) (p1 : Nat) (p2 : Int) (p3 : Int) (p4 : Int) (S : MZ) : Option (Unit × MZ) := ((g_X11_isSide p2 S).bind fun q1 => (if q1.1 = 0 then (g_X2_payOut_30 q1.2) else (if kd p1 = (3, 12) then (if (0 ≤ p2 ∧ p2 < ((2 : Nat) : Int)) then (if (0 ≤ p2 ∧ p2 < ((2 : Nat) : Int)) then ((g_X4_thingOn p1 p2 (uI q1.2 (p1 + 1) (p2).toNat (w32 ((zI q1.2 (p1 + 1) (p2).toNat) - p4)))).bind fun q22 => (if kd h0 = (1, 9) then ((g_X2_putIntoPurse h0 p3 q22.1 p4 q22.2).bind fun q27 => (g_X2_payOut_30 q27.2)) else none)) else none) else none) else none)))
theorem l_X2_payOut {h0 : Nat} {h0' : Nat} (hh0 : h0 = h0') {p1 : Nat} {p1' : Nat} (hp1 : p1 = p1') {p2 : Int32} {p2' : Int} (hp2 : tI p2 = p2') {p3 : Int32} {p3' : Int} (hp3 : tI p3 = p3') {p4 : Int32} {p4' : Int} (hp4 : tI p4 = p4') {S : Mem} {S' : MZ} (hS : tz S = S') : Lf tU (f_X2_payOut h0 p1 p2 p3 p4 S) = g_X2_payOut h0' p1' p2' p3' p4' S' := by
  unfold f_X2_payOut g_X2_payOut
  exact (Lf_bind (l_X11_isSide hp2 hS) (fun q1 => (Lf_if (cI_eq rfl rfl) (l_X2_payOut_30 rfl) (Lf_if (c_kd hp1) (Lf_if (c_inb hp2 rfl) (Lf_if (c_inb hp2 rfl) (Lf_bind (l_X4_thingOn hp1 hp2 (pM_I rfl (pR_add hp1 rfl) (pN_of hp2) (pI_sub (pI_g rfl (pR_add hp1 rfl) (pN_of hp2)) hp4))) (fun q22 => (Lf_if (c_kd hh0) (Lf_bind (l_X2_putIntoPurse hh0 hp3 rfl hp4 rfl) (fun q27 => (l_X2_payOut_30 rfl))) rfl))) rfl) rfl) rfl))))
def g_X2_remove_96 (S : MZ) : Option (Unit × MZ) := (some ((), S))
theorem l_X2_remove_96 {S : Mem} {S' : MZ} (hS : tz S = S') : Lf tU (f_X2_remove_96 S) = g_X2_remove_96 S' := by
  unfold f_X2_remove_96 g_X2_remove_96
  exact (Lf_some rfl hS)
def g_X2_remove_53 (v0 : Nat) (v2 : Nat) (S : MZ) : Option (Unit × MZ) := (if v2 = 0 then (g_X2_remove_96 S) else (if kd v0 = (1, 9) then (if (zI S v0 3) ≤ 0 then (g_X2_remove_96 S) else (if 12 < (zI S v0 3) then (g_X2_remove_96 S) else (if (0 ≤ (zI (uI S v0 3 (w32 ((zI S v0 3) - 1))) v0 3) ∧ (zI (uI S v0 3 (w32 ((zI S v0 3) - 1))) v0 3) < ((12 : Nat) : Int)) then (if kd v2 = (6, 8) then (g_X2_remove_96 (uR (uI S v0 3 (w32 ((zI S v0 3) - 1))) (v0 + 3) ((zI (uI S v0 3 (w32 ((zI S v0 3) - 1))) v0 3)).toNat v2)) else none) else none))) else none))
theorem l_X2_remove_53 {v0 : Nat} {v0' : Nat} (hv0 : v0 = v0') {v2 : Nat} {v2' : Nat} (hv2 : v2 = v2') {S : Mem} {S' : MZ} (hS : tz S = S') : Lf tU (f_X2_remove_53 v0 v2 S) = g_X2_remove_53 v0' v2' S' := by
  unfold f_X2_remove_53 g_X2_remove_53
  exact (Lf_if (cR_eq hv2 rfl) (l_X2_remove_96 hS) (Lf_if (c_kd hv0) (Lf_if (cI_le (pI_g hS hv0 rfl) rfl) (l_X2_remove_96 hS) (Lf_if (cI_lt rfl (pI_g hS hv0 rfl)) (l_X2_remove_96 hS) (Lf_if (c_inb (pI_g (pM_I hS hv0 rfl (pI_sub (pI_g hS hv0 rfl) rfl)) hv0 rfl) rfl) (Lf_if (c_kd hv2) (l_X2_remove_96 (pM_R (pM_I hS hv0 rfl (pI_sub (pI_g hS hv0 rfl) rfl)) (pR_add hv0 rfl) (pN_of (pI_g (pM_I hS hv0 rfl (pI_sub (pI_g hS hv0 rfl) rfl)) hv0 rfl)) hv2)) rfl) rfl))) rfl))
def g_X2_remove_8B (k8 : Nat → Nat → Int → MZ → Option (Unit × MZ)) (v0 : Nat) (v2 : Nat) (v3 : Int) (S : MZ) : Option (Unit × MZ) := (if kd v0 = (1, 9) then (if (zI S v0 3) ≤ (w32 (v3 + 1)) then (g_X2_remove_53 v0 v2 S) else (if 12 ≤ (w32 (v3 + 1)) then (g_X2_remove_53 v0 v2 S) else (if v3 < 0 then (g_X2_remove_53 v0 v2 S) else (if (0 ≤ (w32 (v3 + 1)) ∧ (w32 (v3 + 1)) < ((12 : Nat) : Int)) then (if (0 ≤ v3 ∧ v3 < ((12 : Nat) : Int)) then (if kd (zR S (v0 + 3) ((w32 (v3 + 1))).toNat) = (6, 8) then (k8 v0 v2 (w32 (v3 + 1)) (uR S (v0 + 3) (v3).toNat (zR S (v0 + 3) ((w32 (v3 + 1))).toNat))) else none) else none) else none)))) else none)
theorem l_X2_remove_8B {k8 : Nat → Nat → Int32 → Mem → Option (Unit × Mem)} {k8' : Nat → Nat → Int → MZ → Option (Unit × MZ)} (hk8 : ∀ {x0 : Nat} {x1 : Nat} {x2 : Int32} {x3 : Mem} {y0 : Nat} {y1 : Nat} {y2 : Int} {y3 : MZ}, x0 = y0 → x1 = y1 → tI x2 = y2 → tz x3 = y3 → Lf tU (k8 x0 x1 x2 x3) = k8' y0 y1 y2 y3) {v0 : Nat} {v0' : Nat} (hv0 : v0 = v0') {v2 : Nat} {v2' : Nat} (hv2 : v2 = v2') {v3 : Int32} {v3' : Int} (hv3 : tI v3 = v3') {S : Mem} {S' : MZ} (hS : tz S = S') : Lf tU (f_X2_remove_8B k8 v0 v2 v3 S) = g_X2_remove_8B k8' v0' v2' v3' S' := by
  unfold f_X2_remove_8B g_X2_remove_8B
  exact (Lf_if (c_kd hv0) (Lf_if (cI_le (pI_g hS hv0 rfl) (pI_add hv3 rfl)) (l_X2_remove_53 hv0 hv2 hS) (Lf_if (cI_le rfl (pI_add hv3 rfl)) (l_X2_remove_53 hv0 hv2 hS) (Lf_if (cI_lt hv3 rfl) (l_X2_remove_53 hv0 hv2 hS) (Lf_if (c_inb (pI_add hv3 rfl) rfl) (Lf_if (c_inb hv3 rfl) (Lf_if (c_kd (pR_g hS (pR_add hv0 rfl) (pN_of (pI_add hv3 rfl)))) (hk8 hv0 hv2 (pI_add hv3 rfl) (pM_R hS (pR_add hv0 rfl) (pN_of hv3) (pR_g hS (pR_add hv0 rfl) (pN_of (pI_add hv3 rfl))))) rfl) rfl) rfl)))) rfl)
def g_X2_remove_8 : Nat → Nat → Nat → Int → MZ → Option (Unit × MZ)
  | 0 => fun _ _ _ _ => none
  | n + 1 => g_X2_remove_8B (g_X2_remove_8 n)
theorem l_X2_remove_8 : ∀ (n : Nat) {x0 : Nat} {x1 : Nat} {x2 : Int32} {x3 : Mem} {y0 : Nat} {y1 : Nat} {y2 : Int} {y3 : MZ}, x0 = y0 → x1 = y1 → tI x2 = y2 → tz x3 = y3 → Lf tU (f_X2_remove_8 n x0 x1 x2 x3) = g_X2_remove_8 n y0 y1 y2 y3
  | 0, _, _, _, _, _, _, _, _, _, _, _, _ => rfl
  | n + 1, _, _, _, _, _, _, _, _, e0, e1, e2, e3 => l_X2_remove_8B (fun de0 de1 de2 de3 => l_X2_remove_8 n de0 de1 de2 de3) e0 e1 e2 e3
def g_X2_remove (h0 : Nat) (p1 : Int) (S : MZ) : Option (Unit × MZ) := (if kd h0 = (1, 9) then ((g_X2_stakeAt h0 p1 S).bind fun q2 => (g_X2_remove_8 100000 h0 q2.1 p1 q2.2)) else none)
theorem l_X2_remove {h0 : Nat} {h0' : Nat} (hh0 : h0 = h0') {p1 : Int32} {p1' : Int} (hp1 : tI p1 = p1') {S : Mem} {S' : MZ} (hS : tz S = S') : Lf tU (f_X2_remove h0 p1 S) = g_X2_remove h0' p1' S' := by
  unfold f_X2_remove g_X2_remove
  exact (Lf_if (c_kd hh0) (Lf_bind (l_X2_stakeAt hh0 hp1 hS) (fun q2 => (l_X2_remove_8 100000 hh0 rfl hp1 rfl))) rfl)
def g_X2_withdraw_88 (k52 : Nat → Int → Int → Nat → Nat → Int → Int → MZ → Option (Unit × MZ)) (v0 : Nat) (v1 : Int) (v2 : Int) (v3 : Nat) (v4 : Nat) (v5 : Int) (v6 : Int) (v7 : Int) (S : MZ) : Option (Unit × MZ) := (if kd v3 = (6, 8) then (if kd v0 = (1, 9) then ((g_X2_payOut v0 v4 v6 (zI S v3 0) (w32 v7) S).bind fun q100 => (k52 v0 v1 v2 v3 v4 v5 (w32 (v6 + 1)) q100.2)) else none) else none)
theorem l_X2_withdraw_88 {k52 : Nat → Int32 → Int32 → Nat → Nat → Int32 → Int32 → Mem → Option (Unit × Mem)} {k52' : Nat → Int → Int → Nat → Nat → Int → Int → MZ → Option (Unit × MZ)} (hk52 : ∀ {x0 : Nat} {x1 : Int32} {x2 : Int32} {x3 : Nat} {x4 : Nat} {x5 : Int32} {x6 : Int32} {x7 : Mem} {y0 : Nat} {y1 : Int} {y2 : Int} {y3 : Nat} {y4 : Nat} {y5 : Int} {y6 : Int} {y7 : MZ}, x0 = y0 → tI x1 = y1 → tI x2 = y2 → x3 = y3 → x4 = y4 → tI x5 = y5 → tI x6 = y6 → tz x7 = y7 → Lf tU (k52 x0 x1 x2 x3 x4 x5 x6 x7) = k52' y0 y1 y2 y3 y4 y5 y6 y7) {v0 : Nat} {v0' : Nat} (hv0 : v0 = v0') {v1 : Int32} {v1' : Int} (hv1 : tI v1 = v1') {v2 : Int32} {v2' : Int} (hv2 : tI v2 = v2') {v3 : Nat} {v3' : Nat} (hv3 : v3 = v3') {v4 : Nat} {v4' : Nat} (hv4 : v4 = v4') {v5 : Int32} {v5' : Int} (hv5 : tI v5 = v5') {v6 : Int32} {v6' : Int} (hv6 : tI v6 = v6') {v7 : Int64} {v7' : Int} (hv7 : tJ v7 = v7') {S : Mem} {S' : MZ} (hS : tz S = S') : Lf tU (f_X2_withdraw_88 k52 v0 v1 v2 v3 v4 v5 v6 v7 S) = g_X2_withdraw_88 k52' v0' v1' v2' v3' v4' v5' v6' v7' S' := by
  unfold f_X2_withdraw_88 g_X2_withdraw_88
  exact (Lf_if (c_kd hv3) (Lf_if (c_kd hv0) (Lf_bind (l_X2_payOut hv0 hv4 hv6 (pI_g hS hv3 rfl) (pI_of hv7) hS) (fun q100 => (hk52 hv0 hv1 hv2 hv3 hv4 hv5 (pI_add hv6 rfl) rfl))) rfl) rfl)
def g_X2_withdraw_85 (k52 : Nat → Int → Int → Nat → Nat → Int → Int → MZ → Option (Unit × MZ)) (v0 : Nat) (v1 : Int) (v2 : Int) (v3 : Nat) (v4 : Nat) (v5 : Int) (v6 : Int) (s0 : Int) (s1 : Int) (S : MZ) : Option (Unit × MZ) := (g_X2_withdraw_88 k52 v0 v1 v2 v3 v4 v5 v6 (w64 (s1 + s0)) S)
theorem l_X2_withdraw_85 {k52 : Nat → Int32 → Int32 → Nat → Nat → Int32 → Int32 → Mem → Option (Unit × Mem)} {k52' : Nat → Int → Int → Nat → Nat → Int → Int → MZ → Option (Unit × MZ)} (hk52 : ∀ {x0 : Nat} {x1 : Int32} {x2 : Int32} {x3 : Nat} {x4 : Nat} {x5 : Int32} {x6 : Int32} {x7 : Mem} {y0 : Nat} {y1 : Int} {y2 : Int} {y3 : Nat} {y4 : Nat} {y5 : Int} {y6 : Int} {y7 : MZ}, x0 = y0 → tI x1 = y1 → tI x2 = y2 → x3 = y3 → x4 = y4 → tI x5 = y5 → tI x6 = y6 → tz x7 = y7 → Lf tU (k52 x0 x1 x2 x3 x4 x5 x6 x7) = k52' y0 y1 y2 y3 y4 y5 y6 y7) {v0 : Nat} {v0' : Nat} (hv0 : v0 = v0') {v1 : Int32} {v1' : Int} (hv1 : tI v1 = v1') {v2 : Int32} {v2' : Int} (hv2 : tI v2 = v2') {v3 : Nat} {v3' : Nat} (hv3 : v3 = v3') {v4 : Nat} {v4' : Nat} (hv4 : v4 = v4') {v5 : Int32} {v5' : Int} (hv5 : tI v5 = v5') {v6 : Int32} {v6' : Int} (hv6 : tI v6 = v6') {s0 : Int64} {s0' : Int} (hs0 : tJ s0 = s0') {s1 : Int64} {s1' : Int} (hs1 : tJ s1 = s1') {S : Mem} {S' : MZ} (hS : tz S = S') : Lf tU (f_X2_withdraw_85 k52 v0 v1 v2 v3 v4 v5 v6 s0 s1 S) = g_X2_withdraw_85 k52' v0' v1' v2' v3' v4' v5' v6' s0' s1' S' := by
  unfold f_X2_withdraw_85 g_X2_withdraw_85
  exact (l_X2_withdraw_88 hk52 hv0 hv1 hv2 hv3 hv4 hv5 hv6 (pJ_add hs1 hs0) hS)
def g_X2_withdraw_129 (S : MZ) : Option (Unit × MZ) := (some ((), S))
theorem l_X2_withdraw_129 {S : Mem} {S' : MZ} (hS : tz S = S') : Lf tU (f_X2_withdraw_129 S) = g_X2_withdraw_129 S' := by
  unfold f_X2_withdraw_129 g_X2_withdraw_129
  exact (Lf_some rfl hS)
def g_X2_withdraw_52B (k52 : Nat → Int → Int → Nat → Nat → Int → Int → MZ → Option (Unit × MZ)) (v0 : Nat) (v1 : Int) (v2 : Int) (v3 : Nat) (v4 : Nat) (v5 : Int) (v6 : Int) (S : MZ) : Option (Unit × MZ) := (if 2 ≤ v6 then (if kd v3 = (6, 8) then (if v5 = 0 then (g_X2_withdraw_129 (uI S v3 5 (w32 ((zI S v3 5) - v2)))) else (if kd v0 = (1, 9) then ((g_X2_remove v0 v1 (uI S v3 5 (w32 ((zI S v3 5) - v2)))).bind fun q126 => (g_X2_withdraw_129 q126.2)) else none)) else none) else (if kd v3 = (6, 8) then ((g_X7_liesIn v3 v4 v2 v6 0 S).bind fun q66 => (if v5 = 0 then (g_X2_withdraw_85 k52 v0 v1 v2 v3 v4 v5 v6 0 q66.1 q66.2) else (if (0 ≤ v6 ∧ v6 < ((2 : Nat) : Int)) then (g_X2_withdraw_85 k52 v0 v1 v2 v3 v4 v5 v6 (zL q66.2 (v3 + 2) (v6).toNat) q66.1 q66.2) else none))) else none))
theorem l_X2_withdraw_52B {k52 : Nat → Int32 → Int32 → Nat → Nat → Int32 → Int32 → Mem → Option (Unit × Mem)} {k52' : Nat → Int → Int → Nat → Nat → Int → Int → MZ → Option (Unit × MZ)} (hk52 : ∀ {x0 : Nat} {x1 : Int32} {x2 : Int32} {x3 : Nat} {x4 : Nat} {x5 : Int32} {x6 : Int32} {x7 : Mem} {y0 : Nat} {y1 : Int} {y2 : Int} {y3 : Nat} {y4 : Nat} {y5 : Int} {y6 : Int} {y7 : MZ}, x0 = y0 → tI x1 = y1 → tI x2 = y2 → x3 = y3 → x4 = y4 → tI x5 = y5 → tI x6 = y6 → tz x7 = y7 → Lf tU (k52 x0 x1 x2 x3 x4 x5 x6 x7) = k52' y0 y1 y2 y3 y4 y5 y6 y7) {v0 : Nat} {v0' : Nat} (hv0 : v0 = v0') {v1 : Int32} {v1' : Int} (hv1 : tI v1 = v1') {v2 : Int32} {v2' : Int} (hv2 : tI v2 = v2') {v3 : Nat} {v3' : Nat} (hv3 : v3 = v3') {v4 : Nat} {v4' : Nat} (hv4 : v4 = v4') {v5 : Int32} {v5' : Int} (hv5 : tI v5 = v5') {v6 : Int32} {v6' : Int} (hv6 : tI v6 = v6') {S : Mem} {S' : MZ} (hS : tz S = S') : Lf tU (f_X2_withdraw_52B k52 v0 v1 v2 v3 v4 v5 v6 S) = g_X2_withdraw_52B k52' v0' v1' v2' v3' v4' v5' v6' S' := by
  unfold f_X2_withdraw_52B g_X2_withdraw_52B
  exact (Lf_if (cI_le rfl hv6) (Lf_if (c_kd hv3) (Lf_if (cI_eq hv5 rfl) (l_X2_withdraw_129 (pM_I hS hv3 rfl (pI_sub (pI_g hS hv3 rfl) hv2))) (Lf_if (c_kd hv0) (Lf_bind (l_X2_remove hv0 hv1 (pM_I hS hv3 rfl (pI_sub (pI_g hS hv3 rfl) hv2))) (fun q126 => (l_X2_withdraw_129 rfl))) rfl)) rfl) (Lf_if (c_kd hv3) (Lf_bind (l_X7_liesIn hv3 hv4 (pJ_of hv2) hv6 rfl hS) (fun q66 => (Lf_if (cI_eq hv5 rfl) (l_X2_withdraw_85 hk52 hv0 hv1 hv2 hv3 hv4 hv5 hv6 rfl rfl rfl) (Lf_if (c_inb hv6 rfl) (l_X2_withdraw_85 hk52 hv0 hv1 hv2 hv3 hv4 hv5 hv6 (pJ_g rfl (pR_add hv3 rfl) (pN_of hv6)) rfl rfl) rfl)))) rfl))
def g_X2_withdraw_52 : Nat → Nat → Int → Int → Nat → Nat → Int → Int → MZ → Option (Unit × MZ)
  | 0 => fun _ _ _ _ _ _ _ _ => none
  | n + 1 => g_X2_withdraw_52B (g_X2_withdraw_52 n)
theorem l_X2_withdraw_52 : ∀ (n : Nat) {x0 : Nat} {x1 : Int32} {x2 : Int32} {x3 : Nat} {x4 : Nat} {x5 : Int32} {x6 : Int32} {x7 : Mem} {y0 : Nat} {y1 : Int} {y2 : Int} {y3 : Nat} {y4 : Nat} {y5 : Int} {y6 : Int} {y7 : MZ}, x0 = y0 → tI x1 = y1 → tI x2 = y2 → x3 = y3 → x4 = y4 → tI x5 = y5 → tI x6 = y6 → tz x7 = y7 → Lf tU (f_X2_withdraw_52 n x0 x1 x2 x3 x4 x5 x6 x7) = g_X2_withdraw_52 n y0 y1 y2 y3 y4 y5 y6 y7
  | 0, _, _, _, _, _, _, _, _, _, _, _, _, _, _, _, _, _, _, _, _, _, _, _, _ => rfl
  | n + 1, _, _, _, _, _, _, _, _, _, _, _, _, _, _, _, _, e0, e1, e2, e3, e4, e5, e6, e7 => l_X2_withdraw_52B (fun de0 de1 de2 de3 de4 de5 de6 de7 => l_X2_withdraw_52 n de0 de1 de2 de3 de4 de5 de6 de7) e0 e1 e2 e3 e4 e5 e6 e7
def g_X2_withdraw_47 (v0 : Nat) (v1 : Int) (v2 : Int) (v3 : Nat) (v4 : Nat) (s0 : Int) (S : MZ) : Option (Unit × MZ) := (g_X2_withdraw_52 100000 v0 v1 v2 v3 v4 s0 0 S)
theorem l_X2_withdraw_47 {v0 : Nat} {v0' : Nat} (hv0 : v0 = v0') {v1 : Int32} {v1' : Int} (hv1 : tI v1 = v1') {v2 : Int32} {v2' : Int} (hv2 : tI v2 = v2') {v3 : Nat} {v3' : Nat} (hv3 : v3 = v3') {v4 : Nat} {v4' : Nat} (hv4 : v4 = v4') {s0 : Int32} {s0' : Int} (hs0 : tI s0 = s0') {S : Mem} {S' : MZ} (hS : tz S = S') : Lf tU (f_X2_withdraw_47 v0 v1 v2 v3 v4 s0 S) = g_X2_withdraw_47 v0' v1' v2' v3' v4' s0' S' := by
  unfold f_X2_withdraw_47 g_X2_withdraw_47
  exact (l_X2_withdraw_52 100000 hv0 hv1 hv2 hv3 hv4 hs0 rfl hS)
def g_X2_withdraw_22 (v0 : Nat) (v1 : Int) (v2 : Int) (v3 : Nat) (s0 : Nat) (S : MZ) : Option (Unit × MZ) := (if s0 = 0 then (some ((), S)) else (if kd v3 = (6, 8) then ((g_X7_settle v3 S).bind fun q31 => (if v2 < (zI q31.2 v3 5) then (g_X2_withdraw_47 v0 v1 v2 v3 s0 0 q31.2) else (g_X2_withdraw_47 v0 v1 v2 v3 s0 1 q31.2))) else none))
theorem l_X2_withdraw_22 {v0 : Nat} {v0' : Nat} (hv0 : v0 = v0') {v1 : Int32} {v1' : Int} (hv1 : tI v1 = v1') {v2 : Int32} {v2' : Int} (hv2 : tI v2 = v2') {v3 : Nat} {v3' : Nat} (hv3 : v3 = v3') {s0 : Nat} {s0' : Nat} (hs0 : s0 = s0') {S : Mem} {S' : MZ} (hS : tz S = S') : Lf tU (f_X2_withdraw_22 v0 v1 v2 v3 s0 S) = g_X2_withdraw_22 v0' v1' v2' v3' s0' S' := by
  unfold f_X2_withdraw_22 g_X2_withdraw_22
  exact (Lf_if (cR_eq hs0 rfl) (Lf_some rfl hS) (Lf_if (c_kd hv3) (Lf_bind (l_X7_settle hv3 hS) (fun q31 => (Lf_if (cI_lt hv2 (pI_g rfl hv3 rfl)) (l_X2_withdraw_47 hv0 hv1 hv2 hv3 hs0 rfl rfl) (l_X2_withdraw_47 hv0 hv1 hv2 hv3 hs0 rfl rfl)))) rfl))
def g_X2_withdraw (h0 : Nat) (p1 : Int) (p2 : Int) (S : MZ) : Option (Unit × MZ) := (if kd h0 = (1, 9) then ((g_X2_stakeAt h0 p1 S).bind fun q2 => (if q2.1 = 0 then (g_X2_withdraw_22 h0 p1 p2 q2.1 0 q2.2) else (if kd q2.1 = (6, 8) then ((g_X2_poolAt h0 (zI q2.2 q2.1 1) q2.2).bind fun q19 => (g_X2_withdraw_22 h0 p1 p2 q2.1 q19.1 q19.2)) else none))) else none)
theorem l_X2_withdraw {h0 : Nat} {h0' : Nat} (hh0 : h0 = h0') {p1 : Int32} {p1' : Int} (hp1 : tI p1 = p1') {p2 : Int32} {p2' : Int} (hp2 : tI p2 = p2') {S : Mem} {S' : MZ} (hS : tz S = S') : Lf tU (f_X2_withdraw h0 p1 p2 S) = g_X2_withdraw h0' p1' p2' S' := by
  unfold f_X2_withdraw g_X2_withdraw
  exact (Lf_if (c_kd hh0) (Lf_bind (l_X2_stakeAt hh0 hp1 hS) (fun q2 => (Lf_if (cR_eq rfl rfl) (l_X2_withdraw_22 hh0 hp1 hp2 rfl rfl rfl) (Lf_if (c_kd rfl) (Lf_bind (l_X2_poolAt hh0 (pI_g rfl rfl rfl) rfl) (fun q19 => (l_X2_withdraw_22 hh0 hp1 hp2 rfl rfl rfl))) rfl)))) rfl)
def g_X2_dropAt_112 (k8 : Nat → Int → Int → Int → Int → MZ → Option (Unit × MZ)) (v0 : Nat) (v1 : Int) (v2 : Int) (v3 : Int) (v4 : Int) (S : MZ) : Option (Unit × MZ) := (k8 v0 v1 v2 v3 (w32 (v4 + (-1))) S)
theorem l_X2_dropAt_112 {k8 : Nat → Int32 → Int32 → Int32 → Int32 → Mem → Option (Unit × Mem)} {k8' : Nat → Int → Int → Int → Int → MZ → Option (Unit × MZ)} (hk8 : ∀ {x0 : Nat} {x1 : Int32} {x2 : Int32} {x3 : Int32} {x4 : Int32} {x5 : Mem} {y0 : Nat} {y1 : Int} {y2 : Int} {y3 : Int} {y4 : Int} {y5 : MZ}, x0 = y0 → tI x1 = y1 → tI x2 = y2 → tI x3 = y3 → tI x4 = y4 → tz x5 = y5 → Lf tU (k8 x0 x1 x2 x3 x4 x5) = k8' y0 y1 y2 y3 y4 y5) {v0 : Nat} {v0' : Nat} (hv0 : v0 = v0') {v1 : Int32} {v1' : Int} (hv1 : tI v1 = v1') {v2 : Int32} {v2' : Int} (hv2 : tI v2 = v2') {v3 : Int32} {v3' : Int} (hv3 : tI v3 = v3') {v4 : Int32} {v4' : Int} (hv4 : tI v4 = v4') {S : Mem} {S' : MZ} (hS : tz S = S') : Lf tU (f_X2_dropAt_112 k8 v0 v1 v2 v3 v4 S) = g_X2_dropAt_112 k8' v0' v1' v2' v3' v4' S' := by
  unfold f_X2_dropAt_112 g_X2_dropAt_112
  exact (hk8 hv0 hv1 hv2 hv3 (pI_add hv4 rfl) hS)
def g_X2_dropAt_85 (k8 : Nat → Int → Int → Int → Int → MZ → Option (Unit × MZ)) (v0 : Nat) (v1 : Int) (v2 : Int) (v3 : Int) (v4 : Int) (v5 : Nat) (s0 : Int) (S : MZ) : Option (Unit × MZ) := (if s0 = 0 then (g_X2_dropAt_112 k8 v0 v1 v2 v3 v4 S) else (if kd v5 = (6, 8) then (if (zI S v5 1) = v1 then (if kd v0 = (1, 9) then ((g_X2_withdraw v0 v4 (zI S v5 5) S).bind fun q109 => (g_X2_dropAt_112 k8 v0 v1 v2 v3 v4 q109.2)) else none) else (g_X2_dropAt_112 k8 v0 v1 v2 v3 v4 S)) else none))
theorem l_X2_dropAt_85 {k8 : Nat → Int32 → Int32 → Int32 → Int32 → Mem → Option (Unit × Mem)} {k8' : Nat → Int → Int → Int → Int → MZ → Option (Unit × MZ)} (hk8 : ∀ {x0 : Nat} {x1 : Int32} {x2 : Int32} {x3 : Int32} {x4 : Int32} {x5 : Mem} {y0 : Nat} {y1 : Int} {y2 : Int} {y3 : Int} {y4 : Int} {y5 : MZ}, x0 = y0 → tI x1 = y1 → tI x2 = y2 → tI x3 = y3 → tI x4 = y4 → tz x5 = y5 → Lf tU (k8 x0 x1 x2 x3 x4 x5) = k8' y0 y1 y2 y3 y4 y5) {v0 : Nat} {v0' : Nat} (hv0 : v0 = v0') {v1 : Int32} {v1' : Int} (hv1 : tI v1 = v1') {v2 : Int32} {v2' : Int} (hv2 : tI v2 = v2') {v3 : Int32} {v3' : Int} (hv3 : tI v3 = v3') {v4 : Int32} {v4' : Int} (hv4 : tI v4 = v4') {v5 : Nat} {v5' : Nat} (hv5 : v5 = v5') {s0 : Int32} {s0' : Int} (hs0 : tI s0 = s0') {S : Mem} {S' : MZ} (hS : tz S = S') : Lf tU (f_X2_dropAt_85 k8 v0 v1 v2 v3 v4 v5 s0 S) = g_X2_dropAt_85 k8' v0' v1' v2' v3' v4' v5' s0' S' := by
  unfold f_X2_dropAt_85 g_X2_dropAt_85
  exact (Lf_if (cI_eq hs0 rfl) (l_X2_dropAt_112 hk8 hv0 hv1 hv2 hv3 hv4 hS) (Lf_if (c_kd hv5) (Lf_if (cI_eq (pI_g hS hv5 rfl) hv1) (Lf_if (c_kd hv0) (Lf_bind (l_X2_withdraw hv0 hv4 (pI_g hS hv5 rfl) hS) (fun q109 => (l_X2_dropAt_112 hk8 hv0 hv1 hv2 hv3 hv4 rfl))) rfl) (l_X2_dropAt_112 hk8 hv0 hv1 hv2 hv3 hv4 hS)) rfl))
def g_X2_dropAt_58 (k8 : Nat → Int → Int → Int → Int → MZ → Option (Unit × MZ)) (v0 : Nat) (v1 : Int) (v2 : Int) (v3 : Int) (v4 : Int) (v5 : Nat) (S : MZ) : Option (Unit × MZ) := (g_X2_dropAt_85 k8 v0 v1 v2 v3 v4 v5 0 S)
theorem l_X2_dropAt_58 {k8 : Nat → Int32 → Int32 → Int32 → Int32 → Mem → Option (Unit × Mem)} {k8' : Nat → Int → Int → Int → Int → MZ → Option (Unit × MZ)} (hk8 : ∀ {x0 : Nat} {x1 : Int32} {x2 : Int32} {x3 : Int32} {x4 : Int32} {x5 : Mem} {y0 : Nat} {y1 : Int} {y2 : Int} {y3 : Int} {y4 : Int} {y5 : MZ}, x0 = y0 → tI x1 = y1 → tI x2 = y2 → tI x3 = y3 → tI x4 = y4 → tz x5 = y5 → Lf tU (k8 x0 x1 x2 x3 x4 x5) = k8' y0 y1 y2 y3 y4 y5) {v0 : Nat} {v0' : Nat} (hv0 : v0 = v0') {v1 : Int32} {v1' : Int} (hv1 : tI v1 = v1') {v2 : Int32} {v2' : Int} (hv2 : tI v2 = v2') {v3 : Int32} {v3' : Int} (hv3 : tI v3 = v3') {v4 : Int32} {v4' : Int} (hv4 : tI v4 = v4') {v5 : Nat} {v5' : Nat} (hv5 : v5 = v5') {S : Mem} {S' : MZ} (hS : tz S = S') : Lf tU (f_X2_dropAt_58 k8 v0 v1 v2 v3 v4 v5 S) = g_X2_dropAt_58 k8' v0' v1' v2' v3' v4' v5' S' := by
  unfold f_X2_dropAt_58 g_X2_dropAt_58
  exact (l_X2_dropAt_85 hk8 hv0 hv1 hv2 hv3 hv4 hv5 rfl hS)
def g_X2_dropAt_84 (k8 : Nat → Int → Int → Int → Int → MZ → Option (Unit × MZ)) (v0 : Nat) (v1 : Int) (v2 : Int) (v3 : Int) (v4 : Int) (v5 : Nat) (S : MZ) : Option (Unit × MZ) := (g_X2_dropAt_85 k8 v0 v1 v2 v3 v4 v5 0 S)
theorem l_X2_dropAt_84 {k8 : Nat → Int32 → Int32 → Int32 → Int32 → Mem → Option (Unit × Mem)} {k8' : Nat → Int → Int → Int → Int → MZ → Option (Unit × MZ)} (hk8 : ∀ {x0 : Nat} {x1 : Int32} {x2 : Int32} {x3 : Int32} {x4 : Int32} {x5 : Mem} {y0 : Nat} {y1 : Int} {y2 : Int} {y3 : Int} {y4 : Int} {y5 : MZ}, x0 = y0 → tI x1 = y1 → tI x2 = y2 → tI x3 = y3 → tI x4 = y4 → tz x5 = y5 → Lf tU (k8 x0 x1 x2 x3 x4 x5) = k8' y0 y1 y2 y3 y4 y5) {v0 : Nat} {v0' : Nat} (hv0 : v0 = v0') {v1 : Int32} {v1' : Int} (hv1 : tI v1 = v1') {v2 : Int32} {v2' : Int} (hv2 : tI v2 = v2') {v3 : Int32} {v3' : Int} (hv3 : tI v3 = v3') {v4 : Int32} {v4' : Int} (hv4 : tI v4 = v4') {v5 : Nat} {v5' : Nat} (hv5 : v5 = v5') {S : Mem} {S' : MZ} (hS : tz S = S') : Lf tU (f_X2_dropAt_84 k8 v0 v1 v2 v3 v4 v5 S) = g_X2_dropAt_84 k8' v0' v1' v2' v3' v4' v5' S' := by
  unfold f_X2_dropAt_84 g_X2_dropAt_84
  exact (l_X2_dropAt_85 hk8 hv0 hv1 hv2 hv3 hv4 hv5 rfl hS)
def g_X2_dropAt_32 (k8 : Nat → Int → Int → Int → Int → MZ → Option (Unit × MZ)) (v0 : Nat) (v1 : Int) (v2 : Int) (v3 : Int) (v4 : Int) (v5 : Nat) (S : MZ) : Option (Unit × MZ) := (if v2 = 0 then (if kd v5 = (6, 8) then (if (zI S v5 4) = 2 then (if (zI S v5 2) = v3 then (g_X2_dropAt_85 k8 v0 v1 v2 v3 v4 v5 1 S) else (g_X2_dropAt_58 k8 v0 v1 v2 v3 v4 v5 S)) else (g_X2_dropAt_58 k8 v0 v1 v2 v3 v4 v5 S)) else none) else (if kd v5 = (6, 8) then (if (zI S v5 4) = 1 then (if (zI S v5 3) = v3 then (g_X2_dropAt_85 k8 v0 v1 v2 v3 v4 v5 1 S) else (g_X2_dropAt_84 k8 v0 v1 v2 v3 v4 v5 S)) else (g_X2_dropAt_84 k8 v0 v1 v2 v3 v4 v5 S)) else none))
theorem l_X2_dropAt_32 {k8 : Nat → Int32 → Int32 → Int32 → Int32 → Mem → Option (Unit × Mem)} {k8' : Nat → Int → Int → Int → Int → MZ → Option (Unit × MZ)} (hk8 : ∀ {x0 : Nat} {x1 : Int32} {x2 : Int32} {x3 : Int32} {x4 : Int32} {x5 : Mem} {y0 : Nat} {y1 : Int} {y2 : Int} {y3 : Int} {y4 : Int} {y5 : MZ}, x0 = y0 → tI x1 = y1 → tI x2 = y2 → tI x3 = y3 → tI x4 = y4 → tz x5 = y5 → Lf tU (k8 x0 x1 x2 x3 x4 x5) = k8' y0 y1 y2 y3 y4 y5) {v0 : Nat} {v0' : Nat} (hv0 : v0 = v0') {v1 : Int32} {v1' : Int} (hv1 : tI v1 = v1') {v2 : Int32} {v2' : Int} (hv2 : tI v2 = v2') {v3 : Int32} {v3' : Int} (hv3 : tI v3 = v3') {v4 : Int32} {v4' : Int} (hv4 : tI v4 = v4') {v5 : Nat} {v5' : Nat} (hv5 : v5 = v5') {S : Mem} {S' : MZ} (hS : tz S = S') : Lf tU (f_X2_dropAt_32 k8 v0 v1 v2 v3 v4 v5 S) = g_X2_dropAt_32 k8' v0' v1' v2' v3' v4' v5' S' := by
  unfold f_X2_dropAt_32 g_X2_dropAt_32
  exact (Lf_if (cI_eq hv2 rfl) (Lf_if (c_kd hv5) (Lf_if (cI_eq (pI_g hS hv5 rfl) rfl) (Lf_if (cI_eq (pI_g hS hv5 rfl) hv3) (l_X2_dropAt_85 hk8 hv0 hv1 hv2 hv3 hv4 hv5 rfl hS) (l_X2_dropAt_58 hk8 hv0 hv1 hv2 hv3 hv4 hv5 hS)) (l_X2_dropAt_58 hk8 hv0 hv1 hv2 hv3 hv4 hv5 hS)) rfl) (Lf_if (c_kd hv5) (Lf_if (cI_eq (pI_g hS hv5 rfl) rfl) (Lf_if (cI_eq (pI_g hS hv5 rfl) hv3) (l_X2_dropAt_85 hk8 hv0 hv1 hv2 hv3 hv4 hv5 rfl hS) (l_X2_dropAt_84 hk8 hv0 hv1 hv2 hv3 hv4 hv5 hS)) (l_X2_dropAt_84 hk8 hv0 hv1 hv2 hv3 hv4 hv5 hS)) rfl))
def g_X2_dropAt_118 (S : MZ) : Option (Unit × MZ) := (some ((), S))
theorem l_X2_dropAt_118 {S : Mem} {S' : MZ} (hS : tz S = S') : Lf tU (f_X2_dropAt_118 S) = g_X2_dropAt_118 S' := by
  unfold f_X2_dropAt_118 g_X2_dropAt_118
  exact (Lf_some rfl hS)
def g_X2_dropAt_8B (k8 : Nat → Int → Int → Int → Int → MZ → Option (Unit × MZ)) (v0 : Nat) (v1 : Int) (v2 : Int) (v3 : Int) (v4 : Int) (S : MZ) : Option (Unit × MZ) := (if v4 < 0 then (g_X2_dropAt_118 S) else (if kd v0 = (1, 9) then (if 12 ≤ v4 then (g_X2_dropAt_118 S) else (if (0 ≤ v4 ∧ v4 < ((12 : Nat) : Int)) then (g_X2_dropAt_32 k8 v0 v1 v2 v3 v4 (zR S (v0 + 3) (v4).toNat) S) else none)) else none))
theorem l_X2_dropAt_8B {k8 : Nat → Int32 → Int32 → Int32 → Int32 → Mem → Option (Unit × Mem)} {k8' : Nat → Int → Int → Int → Int → MZ → Option (Unit × MZ)} (hk8 : ∀ {x0 : Nat} {x1 : Int32} {x2 : Int32} {x3 : Int32} {x4 : Int32} {x5 : Mem} {y0 : Nat} {y1 : Int} {y2 : Int} {y3 : Int} {y4 : Int} {y5 : MZ}, x0 = y0 → tI x1 = y1 → tI x2 = y2 → tI x3 = y3 → tI x4 = y4 → tz x5 = y5 → Lf tU (k8 x0 x1 x2 x3 x4 x5) = k8' y0 y1 y2 y3 y4 y5) {v0 : Nat} {v0' : Nat} (hv0 : v0 = v0') {v1 : Int32} {v1' : Int} (hv1 : tI v1 = v1') {v2 : Int32} {v2' : Int} (hv2 : tI v2 = v2') {v3 : Int32} {v3' : Int} (hv3 : tI v3 = v3') {v4 : Int32} {v4' : Int} (hv4 : tI v4 = v4') {S : Mem} {S' : MZ} (hS : tz S = S') : Lf tU (f_X2_dropAt_8B k8 v0 v1 v2 v3 v4 S) = g_X2_dropAt_8B k8' v0' v1' v2' v3' v4' S' := by
  unfold f_X2_dropAt_8B g_X2_dropAt_8B
  exact (Lf_if (cI_lt hv4 rfl) (l_X2_dropAt_118 hS) (Lf_if (c_kd hv0) (Lf_if (cI_le rfl hv4) (l_X2_dropAt_118 hS) (Lf_if (c_inb hv4 rfl) (l_X2_dropAt_32 hk8 hv0 hv1 hv2 hv3 hv4 (pR_g hS (pR_add hv0 rfl) (pN_of hv4)) hS) rfl)) rfl))
def g_X2_dropAt_8 : Nat → Nat → Int → Int → Int → Int → MZ → Option (Unit × MZ)
  | 0 => fun _ _ _ _ _ _ => none
  | n + 1 => g_X2_dropAt_8B (g_X2_dropAt_8 n)
theorem l_X2_dropAt_8 : ∀ (n : Nat) {x0 : Nat} {x1 : Int32} {x2 : Int32} {x3 : Int32} {x4 : Int32} {x5 : Mem} {y0 : Nat} {y1 : Int} {y2 : Int} {y3 : Int} {y4 : Int} {y5 : MZ}, x0 = y0 → tI x1 = y1 → tI x2 = y2 → tI x3 = y3 → tI x4 = y4 → tz x5 = y5 → Lf tU (f_X2_dropAt_8 n x0 x1 x2 x3 x4 x5) = g_X2_dropAt_8 n y0 y1 y2 y3 y4 y5
  | 0, _, _, _, _, _, _, _, _, _, _, _, _, _, _, _, _, _, _ => rfl
  | n + 1, _, _, _, _, _, _, _, _, _, _, _, _, e0, e1, e2, e3, e4, e5 => l_X2_dropAt_8B (fun de0 de1 de2 de3 de4 de5 => l_X2_dropAt_8 n de0 de1 de2 de3 de4 de5) e0 e1 e2 e3 e4 e5
def g_X2_dropAt (h0 : Nat) (p1 : Int) (p2 : Int) (p3 : Int) (S : MZ) : Option (Unit × MZ) := (if kd h0 = (1, 9) then (g_X2_dropAt_8 100000 h0 p1 p2 p3 (w32 ((zI S h0 3) - 1)) S) else none)
theorem l_X2_dropAt {h0 : Nat} {h0' : Nat} (hh0 : h0 = h0') {p1 : Int32} {p1' : Int} (hp1 : tI p1 = p1') {p2 : Int32} {p2' : Int} (hp2 : tI p2 = p2') {p3 : Int32} {p3' : Int} (hp3 : tI p3 = p3') {S : Mem} {S' : MZ} (hS : tz S = S') : Lf tU (f_X2_dropAt h0 p1 p2 p3 S) = g_X2_dropAt h0' p1' p2' p3' S' := by
  unfold f_X2_dropAt g_X2_dropAt
  exact (Lf_if (c_kd hh0) (l_X2_dropAt_8 100000 hh0 hp1 hp2 hp3 (pI_sub (pI_g hS hh0 rfl) rfl) hS) rfl)
def g_X10_finish_17 (S : MZ) : Option (Unit × MZ) := (some ((), S))
theorem l_X10_finish_17 {S : Mem} {S' : MZ} (hS : tz S = S') : Lf tU (f_X10_finish_17 S) = g_X10_finish_17 S' := by
  unfold f_X10_finish_17 g_X10_finish_17
  exact (Lf_some rfl hS)
def g_X10_finish_132 (S : MZ) : Option (Unit × MZ) := (some ((), S))
theorem l_X10_finish_132 {S : Mem} {S' : MZ} (hS : tz S = S') : Lf tU (f_X10_finish_132 S) = g_X10_finish_132 S' := by
  unfold f_X10_finish_132 g_X10_finish_132
  exact (Lf_some rfl hS)
