/-! every method once more, over Int (3) -/
def g_X11_parts_21 (S : MZ) : Option (Int × MZ) := (some ((-1), S))
theorem l_X11_parts_21 {S : Mem} {S' : MZ} (hS : tz S = S') : Lf tI (f_X11_parts_21 S) = g_X11_parts_21 S' := by
  unfold f_X11_parts_21 g_X11_parts_21
  exact (Lf_some rfl hS)
def g_X11_parts_186 (k46 : Int → Int → Int → Int → Int → Int → Int → Int → MZ → Option (Int × MZ)) (v1 : Int) (v2 : Int) (v3 : Int) (v4 : Int) (v5 : Int) (v7 : Int) (v8 : Int) (v9 : Int) (S : MZ) : Option (Int × MZ) := (k46 v1 v2 v3 v4 v5 v7 v8 (w32 (v9 + 1)) S)
theorem l_X11_parts_186 {k46 : Int32 → Int32 → Int32 → Int32 → Int64 → Int32 → Int32 → Int32 → Mem → Option (Int32 × Mem)} {k46' : Int → Int → Int → Int → Int → Int → Int → Int → MZ → Option (Int × MZ)} (hk46 : ∀ {x0 : Int32} {x1 : Int32} {x2 : Int32} {x3 : Int32} {x4 : Int64} {x5 : Int32} {x6 : Int32} {x7 : Int32} {x8 : Mem} {y0 : Int} {y1 : Int} {y2 : Int} {y3 : Int} {y4 : Int} {y5 : Int} {y6 : Int} {y7 : Int} {y8 : MZ}, tI x0 = y0 → tI x1 = y1 → tI x2 = y2 → tI x3 = y3 → tJ x4 = y4 → tI x5 = y5 → tI x6 = y6 → tI x7 = y7 → tz x8 = y8 → Lf tI (k46 x0 x1 x2 x3 x4 x5 x6 x7 x8) = k46' y0 y1 y2 y3 y4 y5 y6 y7 y8) {v1 : Int32} {v1' : Int} (hv1 : tI v1 = v1') {v2 : Int32} {v2' : Int} (hv2 : tI v2 = v2') {v3 : Int32} {v3' : Int} (hv3 : tI v3 = v3') {v4 : Int32} {v4' : Int} (hv4 : tI v4 = v4') {v5 : Int64} {v5' : Int} (hv5 : tJ v5 = v5') {v7 : Int32} {v7' : Int} (hv7 : tI v7 = v7') {v8 : Int32} {v8' : Int} (hv8 : tI v8 = v8') {v9 : Int32} {v9' : Int} (hv9 : tI v9 = v9') {S : Mem} {S' : MZ} (hS : tz S = S') : Lf tI (f_X11_parts_186 k46 v1 v2 v3 v4 v5 v7 v8 v9 S) = g_X11_parts_186 k46' v1' v2' v3' v4' v5' v7' v8' v9' S' := by
  unfold f_X11_parts_186 g_X11_parts_186
  exact (hk46 hv1 hv2 hv3 hv4 hv5 hv7 hv8 (pI_add hv9 rfl) hS)
def g_X11_parts_172 (k46 : Int → Int → Int → Int → Int → Int → Int → Int → MZ → Option (Int × MZ)) (v1 : Int) (v2 : Int) (v3 : Int) (v4 : Int) (v5 : Int) (v7 : Int) (v8 : Int) (v9 : Int) (v10 : Int) (S : MZ) : Option (Int × MZ) := ((g_X1_follow 143 v1 v10 S).bind fun q183 => (g_X11_parts_186 k46 v1 v2 v3 v4 v5 v7 v8 v9 q183.2))
theorem l_X11_parts_172 {k46 : Int32 → Int32 → Int32 → Int32 → Int64 → Int32 → Int32 → Int32 → Mem → Option (Int32 × Mem)} {k46' : Int → Int → Int → Int → Int → Int → Int → Int → MZ → Option (Int × MZ)} (hk46 : ∀ {x0 : Int32} {x1 : Int32} {x2 : Int32} {x3 : Int32} {x4 : Int64} {x5 : Int32} {x6 : Int32} {x7 : Int32} {x8 : Mem} {y0 : Int} {y1 : Int} {y2 : Int} {y3 : Int} {y4 : Int} {y5 : Int} {y6 : Int} {y7 : Int} {y8 : MZ}, tI x0 = y0 → tI x1 = y1 → tI x2 = y2 → tI x3 = y3 → tJ x4 = y4 → tI x5 = y5 → tI x6 = y6 → tI x7 = y7 → tz x8 = y8 → Lf tI (k46 x0 x1 x2 x3 x4 x5 x6 x7 x8) = k46' y0 y1 y2 y3 y4 y5 y6 y7 y8) {v1 : Int32} {v1' : Int} (hv1 : tI v1 = v1') {v2 : Int32} {v2' : Int} (hv2 : tI v2 = v2') {v3 : Int32} {v3' : Int} (hv3 : tI v3 = v3') {v4 : Int32} {v4' : Int} (hv4 : tI v4 = v4') {v5 : Int64} {v5' : Int} (hv5 : tJ v5 = v5') {v7 : Int32} {v7' : Int} (hv7 : tI v7 = v7') {v8 : Int32} {v8' : Int} (hv8 : tI v8 = v8') {v9 : Int32} {v9' : Int} (hv9 : tI v9 = v9') {v10 : Int32} {v10' : Int} (hv10 : tI v10 = v10') {S : Mem} {S' : MZ} (hS : tz S = S') : Lf tI (f_X11_parts_172 k46 v1 v2 v3 v4 v5 v7 v8 v9 v10 S) = g_X11_parts_172 k46' v1' v2' v3' v4' v5' v7' v8' v9' v10' S' := by
  unfold f_X11_parts_172 g_X11_parts_172
  exact (Lf_bind (l_X1_follow rfl hv1 hv10 hS) (fun q183 => (l_X11_parts_186 hk46 hv1 hv2 hv3 hv4 hv5 hv7 hv8 hv9 rfl)))
def g_X11_parts_156 (k46 : Int → Int → Int → Int → Int → Int → Int → Int → MZ → Option (Int × MZ)) (v1 : Int) (v2 : Int) (v3 : Int) (v4 : Int) (v5 : Int) (v7 : Int) (v8 : Int) (v9 : Int) (v10 : Int) (S : MZ) : Option (Int × MZ) := (g_X11_parts_172 k46 v1 v2 v3 v4 (w64 (v5 + (w64 ((zL S 14 0) + v10)))) v7 v8 v9 v10 S)
theorem l_X11_parts_156 {k46 : Int32 → Int32 → Int32 → Int32 → Int64 → Int32 → Int32 → Int32 → Mem → Option (Int32 × Mem)} {k46' : Int → Int → Int → Int → Int → Int → Int → Int → MZ → Option (Int × MZ)} (hk46 : ∀ {x0 : Int32} {x1 : Int32} {x2 : Int32} {x3 : Int32} {x4 : Int64} {x5 : Int32} {x6 : Int32} {x7 : Int32} {x8 : Mem} {y0 : Int} {y1 : Int} {y2 : Int} {y3 : Int} {y4 : Int} {y5 : Int} {y6 : Int} {y7 : Int} {y8 : MZ}, tI x0 = y0 → tI x1 = y1 → tI x2 = y2 → tI x3 = y3 → tJ x4 = y4 → tI x5 = y5 → tI x6 = y6 → tI x7 = y7 → tz x8 = y8 → Lf tI (k46 x0 x1 x2 x3 x4 x5 x6 x7 x8) = k46' y0 y1 y2 y3 y4 y5 y6 y7 y8) {v1 : Int32} {v1' : Int} (hv1 : tI v1 = v1') {v2 : Int32} {v2' : Int} (hv2 : tI v2 = v2') {v3 : Int32} {v3' : Int} (hv3 : tI v3 = v3') {v4 : Int32} {v4' : Int} (hv4 : tI v4 = v4') {v5 : Int64} {v5' : Int} (hv5 : tJ v5 = v5') {v7 : Int32} {v7' : Int} (hv7 : tI v7 = v7') {v8 : Int32} {v8' : Int} (hv8 : tI v8 = v8') {v9 : Int32} {v9' : Int} (hv9 : tI v9 = v9') {v10 : Int32} {v10' : Int} (hv10 : tI v10 = v10') {S : Mem} {S' : MZ} (hS : tz S = S') : Lf tI (f_X11_parts_156 k46 v1 v2 v3 v4 v5 v7 v8 v9 v10 S) = g_X11_parts_156 k46' v1' v2' v3' v4' v5' v7' v8' v9' v10' S' := by
  unfold f_X11_parts_156 g_X11_parts_156
  exact (l_X11_parts_172 hk46 hv1 hv2 hv3 hv4 (pJ_add hv5 (pJ_add (pJ_g hS rfl rfl) (pJ_of hv10))) hv7 hv8 hv9 hv10 hS)
def g_X11_parts_153 (k46 : Int → Int → Int → Int → Int → Int → Int → Int → MZ → Option (Int × MZ)) (v1 : Int) (v2 : Int) (v3 : Int) (v4 : Int) (v5 : Int) (v8 : Int) (v9 : Int) (v10 : Int) (s0 : Int) (s1 : Int) (S : MZ) : Option (Int × MZ) := (g_X11_parts_156 k46 v1 v2 v3 v4 v5 (w32 (s1 + s0)) v8 v9 v10 S)
theorem l_X11_parts_153 {k46 : Int32 → Int32 → Int32 → Int32 → Int64 → Int32 → Int32 → Int32 → Mem → Option (Int32 × Mem)} {k46' : Int → Int → Int → Int → Int → Int → Int → Int → MZ → Option (Int × MZ)} (hk46 : ∀ {x0 : Int32} {x1 : Int32} {x2 : Int32} {x3 : Int32} {x4 : Int64} {x5 : Int32} {x6 : Int32} {x7 : Int32} {x8 : Mem} {y0 : Int} {y1 : Int} {y2 : Int} {y3 : Int} {y4 : Int} {y5 : Int} {y6 : Int} {y7 : Int} {y8 : MZ}, tI x0 = y0 → tI x1 = y1 → tI x2 = y2 → tI x3 = y3 → tJ x4 = y4 → tI x5 = y5 → tI x6 = y6 → tI x7 = y7 → tz x8 = y8 → Lf tI (k46 x0 x1 x2 x3 x4 x5 x6 x7 x8) = k46' y0 y1 y2 y3 y4 y5 y6 y7 y8) {v1 : Int32} {v1' : Int} (hv1 : tI v1 = v1') {v2 : Int32} {v2' : Int} (hv2 : tI v2 = v2') {v3 : Int32} {v3' : Int} (hv3 : tI v3 = v3') {v4 : Int32} {v4' : Int} (hv4 : tI v4 = v4') {v5 : Int64} {v5' : Int} (hv5 : tJ v5 = v5') {v8 : Int32} {v8' : Int} (hv8 : tI v8 = v8') {v9 : Int32} {v9' : Int} (hv9 : tI v9 = v9') {v10 : Int32} {v10' : Int} (hv10 : tI v10 = v10') {s0 : Int32} {s0' : Int} (hs0 : tI s0 = s0') {s1 : Int32} {s1' : Int} (hs1 : tI s1 = s1') {S : Mem} {S' : MZ} (hS : tz S = S') : Lf tI (f_X11_parts_153 k46 v1 v2 v3 v4 v5 v8 v9 v10 s0 s1 S) = g_X11_parts_153 k46' v1' v2' v3' v4' v5' v8' v9' v10' s0' s1' S' := by
  unfold f_X11_parts_153 g_X11_parts_153
  exact (l_X11_parts_156 hk46 hv1 hv2 hv3 hv4 hv5 (pI_add hs1 hs0) hv8 hv9 hv10 hS)
def g_X11_parts_132 (k46 : Int → Int → Int → Int → Int → Int → Int → Int → MZ → Option (Int × MZ)) (v1 : Int) (v2 : Int) (v3 : Int) (v4 : Int) (v5 : Int) (v7 : Int) (v9 : Int) (v10 : Int) (s0 : Int) (S : MZ) : Option (Int × MZ) := ((g_X1_bestCode S).bind fun q140 => (if q140.1 = s0 then (g_X11_parts_153 k46 v1 v2 v3 v4 v5 s0 v9 v10 0 v7 q140.2) else (g_X11_parts_153 k46 v1 v2 v3 v4 v5 s0 v9 v10 1 v7 q140.2)))
theorem l_X11_parts_132 {k46 : Int32 → Int32 → Int32 → Int32 → Int64 → Int32 → Int32 → Int32 → Mem → Option (Int32 × Mem)} {k46' : Int → Int → Int → Int → Int → Int → Int → Int → MZ → Option (Int × MZ)} (hk46 : ∀ {x0 : Int32} {x1 : Int32} {x2 : Int32} {x3 : Int32} {x4 : Int64} {x5 : Int32} {x6 : Int32} {x7 : Int32} {x8 : Mem} {y0 : Int} {y1 : Int} {y2 : Int} {y3 : Int} {y4 : Int} {y5 : Int} {y6 : Int} {y7 : Int} {y8 : MZ}, tI x0 = y0 → tI x1 = y1 → tI x2 = y2 → tI x3 = y3 → tJ x4 = y4 → tI x5 = y5 → tI x6 = y6 → tI x7 = y7 → tz x8 = y8 → Lf tI (k46 x0 x1 x2 x3 x4 x5 x6 x7 x8) = k46' y0 y1 y2 y3 y4 y5 y6 y7 y8) {v1 : Int32} {v1' : Int} (hv1 : tI v1 = v1') {v2 : Int32} {v2' : Int} (hv2 : tI v2 = v2') {v3 : Int32} {v3' : Int} (hv3 : tI v3 = v3') {v4 : Int32} {v4' : Int} (hv4 : tI v4 = v4') {v5 : Int64} {v5' : Int} (hv5 : tJ v5 = v5') {v7 : Int32} {v7' : Int} (hv7 : tI v7 = v7') {v9 : Int32} {v9' : Int} (hv9 : tI v9 = v9') {v10 : Int32} {v10' : Int} (hv10 : tI v10 = v10') {s0 : Int32} {s0' : Int} (hs0 : tI s0 = s0') {S : Mem} {S' : MZ} (hS : tz S = S') : Lf tI (f_X11_parts_132 k46 v1 v2 v3 v4 v5 v7 v9 v10 s0 S) = g_X11_parts_132 k46' v1' v2' v3' v4' v5' v7' v9' v10' s0' S' := by
  unfold f_X11_parts_132 g_X11_parts_132
  exact (Lf_bind (l_X1_bestCode hS) (fun q140 => (Lf_if (cI_eq rfl hs0) (l_X11_parts_153 hk46 hv1 hv2 hv3 hv4 hv5 hs0 hv9 hv10 rfl hv7 rfl) (l_X11_parts_153 hk46 hv1 hv2 hv3 hv4 hv5 hs0 hv9 hv10 rfl hv7 rfl))))
def g_X11_parts_72 (k46 : Int → Int → Int → Int → Int → Int → Int → Int → MZ → Option (Int × MZ)) (v1 : Int) (v2 : Int) (v3 : Int) (v4 : Int) (v5 : Int) (v7 : Int) (v8 : Int) (v9 : Int) (v10 : Int) (S : MZ) : Option (Int × MZ) := (if v10 ≤ 0 then (g_X11_parts_186 k46 v1 v2 v3 v4 v5 v7 v8 v9 S) else ((g_X1_forget (w32 (-v10)) S).bind fun q84 => ((g_X1_search 143 v1 v2 v10 q84.2).bind fun q99 => (if (zI q99.2 14 2) = 0 then (some ((-2), q99.2)) else (if v8 = 0 then ((g_X1_bestCode q99.2).bind fun q124 => (g_X11_parts_132 k46 v1 v2 v3 v4 v5 v7 v9 v10 q124.1 q124.2)) else (g_X11_parts_132 k46 v1 v2 v3 v4 v5 v7 v9 v10 v8 q99.2))))))
theorem l_X11_parts_72 {k46 : Int32 → Int32 → Int32 → Int32 → Int64 → Int32 → Int32 → Int32 → Mem → Option (Int32 × Mem)} {k46' : Int → Int → Int → Int → Int → Int → Int → Int → MZ → Option (Int × MZ)} (hk46 : ∀ {x0 : Int32} {x1 : Int32} {x2 : Int32} {x3 : Int32} {x4 : Int64} {x5 : Int32} {x6 : Int32} {x7 : Int32} {x8 : Mem} {y0 : Int} {y1 : Int} {y2 : Int} {y3 : Int} {y4 : Int} {y5 : Int} {y6 : Int} {y7 : Int} {y8 : MZ}, tI x0 = y0 → tI x1 = y1 → tI x2 = y2 → tI x3 = y3 → tJ x4 = y4 → tI x5 = y5 → tI x6 = y6 → tI x7 = y7 → tz x8 = y8 → Lf tI (k46 x0 x1 x2 x3 x4 x5 x6 x7 x8) = k46' y0 y1 y2 y3 y4 y5 y6 y7 y8) {v1 : Int32} {v1' : Int} (hv1 : tI v1 = v1') {v2 : Int32} {v2' : Int} (hv2 : tI v2 = v2') {v3 : Int32} {v3' : Int} (hv3 : tI v3 = v3') {v4 : Int32} {v4' : Int} (hv4 : tI v4 = v4') {v5 : Int64} {v5' : Int} (hv5 : tJ v5 = v5') {v7 : Int32} {v7' : Int} (hv7 : tI v7 = v7') {v8 : Int32} {v8' : Int} (hv8 : tI v8 = v8') {v9 : Int32} {v9' : Int} (hv9 : tI v9 = v9') {v10 : Int32} {v10' : Int} (hv10 : tI v10 = v10') {S : Mem} {S' : MZ} (hS : tz S = S') : Lf tI (f_X11_parts_72 k46 v1 v2 v3 v4 v5 v7 v8 v9 v10 S) = g_X11_parts_72 k46' v1' v2' v3' v4' v5' v7' v8' v9' v10' S' := by
  unfold f_X11_parts_72 g_X11_parts_72
  exact (Lf_if (cI_le hv10 rfl) (l_X11_parts_186 hk46 hv1 hv2 hv3 hv4 hv5 hv7 hv8 hv9 hS) (Lf_bind (l_X1_forget (pI_neg hv10) hS) (fun q84 => (Lf_bind (l_X1_search rfl hv1 hv2 hv10 rfl) (fun q99 => (Lf_if (cI_eq (pI_g rfl rfl rfl) rfl) (Lf_some rfl rfl) (Lf_if (cI_eq hv8 rfl) (Lf_bind (l_X1_bestCode rfl) (fun q124 => (l_X11_parts_132 hk46 hv1 hv2 hv3 hv4 hv5 hv7 hv9 hv10 rfl rfl))) (l_X11_parts_132 hk46 hv1 hv2 hv3 hv4 hv5 hv7 hv9 hv10 hv8 rfl))))))))
def g_X11_parts_205 (s0 : Int) (S : MZ) : Option (Int × MZ) := (some (s0, S))
theorem l_X11_parts_205 {s0 : Int32} {s0' : Int} (hs0 : tI s0 = s0') {S : Mem} {S' : MZ} (hS : tz S = S') : Lf tI (f_X11_parts_205 s0 S) = g_X11_parts_205 s0' S' := by
  unfold f_X11_parts_205 g_X11_parts_205
  exact (Lf_some hs0 hS)
def g_X11_parts_46B (k46 : Int → Int → Int → Int → Int → Int → Int → Int → MZ → Option (Int × MZ)) (v1 : Int) (v2 : Int) (v3 : Int) (v4 : Int) (v5 : Int) (v7 : Int) (v8 : Int) (v9 : Int) (S : MZ) : Option (Int × MZ) := (if 10 < v9 then (if v4 = 0 then (g_X11_parts_205 (w32 v5) S) else (g_X11_parts_205 v7 S)) else (g_X11_parts_72 k46 v1 v2 v3 v4 v5 v7 v8 v9 (w32 ((w32 (Int.tdiv (w32 (v3 * v9)) 10)) - (w32 (Int.tdiv (w32 (v3 * (w32 (v9 - 1)))) 10)))) S))
theorem l_X11_parts_46B {k46 : Int32 → Int32 → Int32 → Int32 → Int64 → Int32 → Int32 → Int32 → Mem → Option (Int32 × Mem)} {k46' : Int → Int → Int → Int → Int → Int → Int → Int → MZ → Option (Int × MZ)} (hk46 : ∀ {x0 : Int32} {x1 : Int32} {x2 : Int32} {x3 : Int32} {x4 : Int64} {x5 : Int32} {x6 : Int32} {x7 : Int32} {x8 : Mem} {y0 : Int} {y1 : Int} {y2 : Int} {y3 : Int} {y4 : Int} {y5 : Int} {y6 : Int} {y7 : Int} {y8 : MZ}, tI x0 = y0 → tI x1 = y1 → tI x2 = y2 → tI x3 = y3 → tJ x4 = y4 → tI x5 = y5 → tI x6 = y6 → tI x7 = y7 → tz x8 = y8 → Lf tI (k46 x0 x1 x2 x3 x4 x5 x6 x7 x8) = k46' y0 y1 y2 y3 y4 y5 y6 y7 y8) {v1 : Int32} {v1' : Int} (hv1 : tI v1 = v1') {v2 : Int32} {v2' : Int} (hv2 : tI v2 = v2') {v3 : Int32} {v3' : Int} (hv3 : tI v3 = v3') {v4 : Int32} {v4' : Int} (hv4 : tI v4 = v4') {v5 : Int64} {v5' : Int} (hv5 : tJ v5 = v5') {v7 : Int32} {v7' : Int} (hv7 : tI v7 = v7') {v8 : Int32} {v8' : Int} (hv8 : tI v8 = v8') {v9 : Int32} {v9' : Int} (hv9 : tI v9 = v9') {S : Mem} {S' : MZ} (hS : tz S = S') : Lf tI (f_X11_parts_46B k46 v1 v2 v3 v4 v5 v7 v8 v9 S) = g_X11_parts_46B k46' v1' v2' v3' v4' v5' v7' v8' v9' S' := by
  unfold f_X11_parts_46B g_X11_parts_46B
  exact (Lf_if (cI_lt rfl hv9) (Lf_if (cI_eq hv4 rfl) (l_X11_parts_205 (pI_of hv5) hS) (l_X11_parts_205 hv7 hS)) (l_X11_parts_72 hk46 hv1 hv2 hv3 hv4 hv5 hv7 hv8 hv9 (pI_sub (pI_div (pI_mul hv3 hv9) rfl) (pI_div (pI_mul hv3 (pI_sub hv9 rfl)) rfl)) hS))
def g_X11_parts_46 : Nat → Int → Int → Int → Int → Int → Int → Int → Int → MZ → Option (Int × MZ)
  | 0 => fun _ _ _ _ _ _ _ _ _ => none
  | n + 1 => g_X11_parts_46B (g_X11_parts_46 n)
theorem l_X11_parts_46 : ∀ (n : Nat) {x0 : Int32} {x1 : Int32} {x2 : Int32} {x3 : Int32} {x4 : Int64} {x5 : Int32} {x6 : Int32} {x7 : Int32} {x8 : Mem} {y0 : Int} {y1 : Int} {y2 : Int} {y3 : Int} {y4 : Int} {y5 : Int} {y6 : Int} {y7 : Int} {y8 : MZ}, tI x0 = y0 → tI x1 = y1 → tI x2 = y2 → tI x3 = y3 → tJ x4 = y4 → tI x5 = y5 → tI x6 = y6 → tI x7 = y7 → tz x8 = y8 → Lf tI (f_X11_parts_46 n x0 x1 x2 x3 x4 x5 x6 x7 x8) = g_X11_parts_46 n y0 y1 y2 y3 y4 y5 y6 y7 y8
  | 0, _, _, _, _, _, _, _, _, _, _, _, _, _, _, _, _, _, _, _, _, _, _, _, _, _, _, _ => rfl
  | n + 1, _, _, _, _, _, _, _, _, _, _, _, _, _, _, _, _, _, _, e0, e1, e2, e3, e4, e5, e6, e7, e8 => l_X11_parts_46B (fun de0 de1 de2 de3 de4 de5 de6 de7 de8 => l_X11_parts_46 n de0 de1 de2 de3 de4 de5 de6 de7 de8) e0 e1 e2 e3 e4 e5 e6 e7 e8
def g_X11_parts (p1 : Int) (p2 : Int) (p3 : Int) (p4 : Int) (S : MZ) : Option (Int × MZ) := ((g_X11_canWander p1 p2 p3 S).bind fun q4 => (if q4.1 = 0 then (g_X11_parts_21 q4.2) else (if p4 < 0 then (g_X11_parts_21 q4.2) else (if p4 ≤ 1 then ((g_X2_copyFrom 143 78 q4.2).bind fun q31 => (g_X11_parts_46 100000 p1 p2 p3 p4 0 0 0 1 q31.2)) else (g_X11_parts_21 q4.2)))))
theorem l_X11_parts {p1 : Int32} {p1' : Int} (hp1 : tI p1 = p1') {p2 : Int32} {p2' : Int} (hp2 : tI p2 = p2') {p3 : Int32} {p3' : Int} (hp3 : tI p3 = p3') {p4 : Int32} {p4' : Int} (hp4 : tI p4 = p4') {S : Mem} {S' : MZ} (hS : tz S = S') : Lf tI (f_X11_parts p1 p2 p3 p4 S) = g_X11_parts p1' p2' p3' p4' S' := by
  unfold f_X11_parts g_X11_parts
  exact (Lf_bind (l_X11_canWander hp1 hp2 hp3 hS) (fun q4 => (Lf_if (cI_eq rfl rfl) (l_X11_parts_21 rfl) (Lf_if (cI_lt hp4 rfl) (l_X11_parts_21 rfl) (Lf_if (cI_le hp4 rfl) (Lf_bind (l_X2_copyFrom rfl rfl rfl) (fun q31 => (l_X11_parts_46 100000 hp1 hp2 hp3 hp4 rfl rfl rfl rfl rfl))) (l_X11_parts_21 rfl))))))
def g_X11_ring_20 (S : MZ) : Option (Int × MZ) := (some ((-1), S))
theorem l_X11_ring_20 {S : Mem} {S' : MZ} (hS : tz S = S') : Lf tI (f_X11_ring_20 S) = g_X11_ring_20 S' := by
  unfold f_X11_ring_20 g_X11_ring_20
  exact (Lf_some rfl hS)
def g_X11_ring_32B (k32 : Int → Int → Int → MZ → Option (Int × MZ)) (v1 : Int) (v2 : Int) (v3 : Int) (S : MZ) : Option (Int × MZ) := (if 10000 < v3 then (if (zI S 14 2) = 0 then (some ((-2), S)) else (if v2 = 0 then (some ((w32 (zL S 14 0)), S)) else (if v2 = 1 then (some ((zI S 14 1), S)) else (if v2 = 2 then (some ((zI S 14 2), S)) else ((g_X1_bestPool (w32 (v2 - 3)) S).bind fun q132 => (some (q132.1, q132.2))))))) else ((g_X1_search 78 v1 v1 v3 S).bind fun q50 => (k32 v1 v2 (w32 (v3 * 10)) q50.2)))
theorem l_X11_ring_32B {k32 : Int32 → Int32 → Int32 → Mem → Option (Int32 × Mem)} {k32' : Int → Int → Int → MZ → Option (Int × MZ)} (hk32 : ∀ {x0 : Int32} {x1 : Int32} {x2 : Int32} {x3 : Mem} {y0 : Int} {y1 : Int} {y2 : Int} {y3 : MZ}, tI x0 = y0 → tI x1 = y1 → tI x2 = y2 → tz x3 = y3 → Lf tI (k32 x0 x1 x2 x3) = k32' y0 y1 y2 y3) {v1 : Int32} {v1' : Int} (hv1 : tI v1 = v1') {v2 : Int32} {v2' : Int} (hv2 : tI v2 = v2') {v3 : Int32} {v3' : Int} (hv3 : tI v3 = v3') {S : Mem} {S' : MZ} (hS : tz S = S') : Lf tI (f_X11_ring_32B k32 v1 v2 v3 S) = g_X11_ring_32B k32' v1' v2' v3' S' := by
  unfold f_X11_ring_32B g_X11_ring_32B
  exact (Lf_if (cI_lt rfl hv3) (Lf_if (cI_eq (pI_g hS rfl rfl) rfl) (Lf_some rfl hS) (Lf_if (cI_eq hv2 rfl) (Lf_some (pI_of (pJ_g hS rfl rfl)) hS) (Lf_if (cI_eq hv2 rfl) (Lf_some (pI_g hS rfl rfl) hS) (Lf_if (cI_eq hv2 rfl) (Lf_some (pI_g hS rfl rfl) hS) (Lf_bind (l_X1_bestPool (pI_sub hv2 rfl) hS) (fun q132 => (Lf_some rfl rfl))))))) (Lf_bind (l_X1_search rfl hv1 hv1 hv3 hS) (fun q50 => (hk32 hv1 hv2 (pI_mul hv3 rfl) rfl))))
def g_X11_ring_32 : Nat → Int → Int → Int → MZ → Option (Int × MZ)
  | 0 => fun _ _ _ _ => none
  | n + 1 => g_X11_ring_32B (g_X11_ring_32 n)
theorem l_X11_ring_32 : ∀ (n : Nat) {x0 : Int32} {x1 : Int32} {x2 : Int32} {x3 : Mem} {y0 : Int} {y1 : Int} {y2 : Int} {y3 : MZ}, tI x0 = y0 → tI x1 = y1 → tI x2 = y2 → tz x3 = y3 → Lf tI (f_X11_ring_32 n x0 x1 x2 x3) = g_X11_ring_32 n y0 y1 y2 y3
  | 0, _, _, _, _, _, _, _, _, _, _, _, _ => rfl
  | n + 1, _, _, _, _, _, _, _, _, e0, e1, e2, e3 => l_X11_ring_32B (fun de0 de1 de2 de3 => l_X11_ring_32 n de0 de1 de2 de3) e0 e1 e2 e3
def g_X11_ring (p1 : Int) (p2 : Int) (S : MZ) : Option (Int × MZ) := ((g_X2_hasThing 78 p1 S).bind fun q5 => (if q5.1 = 0 then (g_X11_ring_20 q5.2) else (if p2 < 0 then (g_X11_ring_20 q5.2) else (if p2 ≤ 5 then ((g_X1_forget 0 q5.2).bind fun q27 => (g_X11_ring_32 100000 p1 p2 1 q27.2)) else (g_X11_ring_20 q5.2)))))
theorem l_X11_ring {p1 : Int32} {p1' : Int} (hp1 : tI p1 = p1') {p2 : Int32} {p2' : Int} (hp2 : tI p2 = p2') {S : Mem} {S' : MZ} (hS : tz S = S') : Lf tI (f_X11_ring p1 p2 S) = g_X11_ring p1' p2' S' := by
  unfold f_X11_ring g_X11_ring
  exact (Lf_bind (l_X2_hasThing rfl hp1 hS) (fun q5 => (Lf_if (cI_eq rfl rfl) (l_X11_ring_20 rfl) (Lf_if (cI_lt hp2 rfl) (l_X11_ring_20 rfl) (Lf_if (cI_le hp2 rfl) (Lf_bind (l_X1_forget rfl rfl) (fun q27 => (l_X11_ring_32 100000 hp1 hp2 rfl rfl))) (l_X11_ring_20 rfl))))))
def g_X11_total_23 (s0 : Int) (S : MZ) : Option (Int × MZ) := (some (s0, S))
theorem l_X11_total_23 {s0 : Int32} {s0' : Int} (hs0 : tI s0 = s0') {S : Mem} {S' : MZ} (hS : tz S = S') : Lf tI (f_X11_total_23 s0 S) = g_X11_total_23 s0' S' := by
  unfold f_X11_total_23 g_X11_total_23
  exact (Lf_some hs0 hS)
def g_X11_total (p1 : Int) (S : MZ) : Option (Int × MZ) := ((g_X2_hasThing 78 p1 S).bind fun q5 => (if q5.1 = 0 then (g_X11_total_23 (-1) q5.2) else ((g_X2_allOf 78 p1 q5.2).bind fun q16 => (g_X11_total_23 q16.1 q16.2))))
theorem l_X11_total {p1 : Int32} {p1' : Int} (hp1 : tI p1 = p1') {S : Mem} {S' : MZ} (hS : tz S = S') : Lf tI (f_X11_total p1 S) = g_X11_total p1' S' := by
  unfold f_X11_total g_X11_total
  exact (Lf_bind (l_X2_hasThing rfl hp1 hS) (fun q5 => (Lf_if (cI_eq rfl rfl) (l_X11_total_23 rfl rfl) (Lf_bind (l_X2_allOf rfl hp1 rfl) (fun q16 => (l_X11_total_23 rfl rfl))))))
def g_X11_count (p1 : Int) (S : MZ) : Option (Int × MZ) := (if p1 = 0 then (some ((zI S 78 0), S)) else (if p1 = 1 then (some ((zI S 78 1), S)) else (if p1 = 2 then (some ((zI S 78 2), S)) else (if p1 = 3 then (some ((zI S 78 3), S)) else (if p1 = 4 then (some ((zI S 78 4), S)) else (if p1 = 5 then (some ((zI S 78 5), S)) else (if p1 = 6 then (some ((zI S 2 0), S)) else (some ((-1), S)))))))))
theorem l_X11_count {p1 : Int32} {p1' : Int} (hp1 : tI p1 = p1') {S : Mem} {S' : MZ} (hS : tz S = S') : Lf tI (f_X11_count p1 S) = g_X11_count p1' S' := by
  unfold f_X11_count g_X11_count
  exact (Lf_if (cI_eq hp1 rfl) (Lf_some (pI_g hS rfl rfl) hS) (Lf_if (cI_eq hp1 rfl) (Lf_some (pI_g hS rfl rfl) hS) (Lf_if (cI_eq hp1 rfl) (Lf_some (pI_g hS rfl rfl) hS) (Lf_if (cI_eq hp1 rfl) (Lf_some (pI_g hS rfl rfl) hS) (Lf_if (cI_eq hp1 rfl) (Lf_some (pI_g hS rfl rfl) hS) (Lf_if (cI_eq hp1 rfl) (Lf_some (pI_g hS rfl rfl) hS) (Lf_if (cI_eq hp1 rfl) (Lf_some (pI_g hS rfl rfl) hS) (Lf_some rfl hS))))))))
def g_X12_rootOfNumber_33 (k7 : Int → Int → Int → MZ → Option (Int × MZ)) (v0 : Int) (v2 : Int) (v4 : Int) (S : MZ) : Option (Int × MZ) := (k7 v0 v2 (shr64 v4 (and64 1 63)) S)
theorem l_X12_rootOfNumber_33 {k7 : Int64 → Int64 → Int64 → Mem → Option (Int64 × Mem)} {k7' : Int → Int → Int → MZ → Option (Int × MZ)} (hk7 : ∀ {x0 : Int64} {x1 : Int64} {x2 : Int64} {x3 : Mem} {y0 : Int} {y1 : Int} {y2 : Int} {y3 : MZ}, tJ x0 = y0 → tJ x1 = y1 → tJ x2 = y2 → tz x3 = y3 → Lf tJ (k7 x0 x1 x2 x3) = k7' y0 y1 y2 y3) {v0 : Int64} {v0' : Int} (hv0 : tJ v0 = v0') {v2 : Int64} {v2' : Int} (hv2 : tJ v2 = v2') {v4 : Int64} {v4' : Int} (hv4 : tJ v4 = v4') {S : Mem} {S' : MZ} (hS : tz S = S') : Lf tJ (f_X12_rootOfNumber_33 k7 v0 v2 v4 S) = g_X12_rootOfNumber_33 k7' v0' v2' v4' S' := by
  unfold f_X12_rootOfNumber_33 g_X12_rootOfNumber_33
  exact (hk7 hv0 hv2 (pJ_shr hv4 (pJ_and (pJ_of rfl) rfl)) hS)
def g_X12_rootOfNumber_7B (k7 : Int → Int → Int → MZ → Option (Int × MZ)) (v0 : Int) (v2 : Int) (v4 : Int) (S : MZ) : Option (Int × MZ) := (if v4 ≤ 0 then (some (v2, S)) else (if v0 < (w64 ((or64 v2 v4) * (or64 v2 v4))) then (g_X12_rootOfNumber_33 k7 v0 v2 v4 S) else (g_X12_rootOfNumber_33 k7 v0 (or64 v2 v4) v4 S)))
theorem l_X12_rootOfNumber_7B {k7 : Int64 → Int64 → Int64 → Mem → Option (Int64 × Mem)} {k7' : Int → Int → Int → MZ → Option (Int × MZ)} (hk7 : ∀ {x0 : Int64} {x1 : Int64} {x2 : Int64} {x3 : Mem} {y0 : Int} {y1 : Int} {y2 : Int} {y3 : MZ}, tJ x0 = y0 → tJ x1 = y1 → tJ x2 = y2 → tz x3 = y3 → Lf tJ (k7 x0 x1 x2 x3) = k7' y0 y1 y2 y3) {v0 : Int64} {v0' : Int} (hv0 : tJ v0 = v0') {v2 : Int64} {v2' : Int} (hv2 : tJ v2 = v2') {v4 : Int64} {v4' : Int} (hv4 : tJ v4 = v4') {S : Mem} {S' : MZ} (hS : tz S = S') : Lf tJ (f_X12_rootOfNumber_7B k7 v0 v2 v4 S) = g_X12_rootOfNumber_7B k7' v0' v2' v4' S' := by
  unfold f_X12_rootOfNumber_7B g_X12_rootOfNumber_7B
  exact (Lf_if (cJ_le hv4 rfl) (Lf_some hv2 hS) (Lf_if (cJ_lt hv0 (pJ_mul (pJ_or hv2 hv4) (pJ_or hv2 hv4))) (l_X12_rootOfNumber_33 hk7 hv0 hv2 hv4 hS) (l_X12_rootOfNumber_33 hk7 hv0 (pJ_or hv2 hv4) hv4 hS)))
def g_X12_rootOfNumber_7 : Nat → Int → Int → Int → MZ → Option (Int × MZ)
  | 0 => fun _ _ _ _ => none
  | n + 1 => g_X12_rootOfNumber_7B (g_X12_rootOfNumber_7 n)
theorem l_X12_rootOfNumber_7 : ∀ (n : Nat) {x0 : Int64} {x1 : Int64} {x2 : Int64} {x3 : Mem} {y0 : Int} {y1 : Int} {y2 : Int} {y3 : MZ}, tJ x0 = y0 → tJ x1 = y1 → tJ x2 = y2 → tz x3 = y3 → Lf tJ (f_X12_rootOfNumber_7 n x0 x1 x2 x3) = g_X12_rootOfNumber_7 n y0 y1 y2 y3
  | 0, _, _, _, _, _, _, _, _, _, _, _, _ => rfl
  | n + 1, _, _, _, _, _, _, _, _, e0, e1, e2, e3 => l_X12_rootOfNumber_7B (fun de0 de1 de2 de3 => l_X12_rootOfNumber_7 n de0 de1 de2 de3) e0 e1 e2 e3
def g_X12_rootOfNumber (p0 : Int) (S : MZ) : Option (Int × MZ) := (g_X12_rootOfNumber_7 100000 p0 0 16777216 S)
theorem l_X12_rootOfNumber {p0 : Int64} {p0' : Int} (hp0 : tJ p0 = p0') {S : Mem} {S' : MZ} (hS : tz S = S') : Lf tJ (f_X12_rootOfNumber p0 S) = g_X12_rootOfNumber p0' S' := by
  unfold f_X12_rootOfNumber g_X12_rootOfNumber
  exact (l_X12_rootOfNumber_7 100000 hp0 rfl rfl hS)
def g_X12_isIn_18 (s0 : Int) (S : MZ) : Option (Int × MZ) := (if (s0 = 0 ∨ s0 = 1) then (some (s0, S)) else none)
theorem l_X12_isIn_18 {s0 : Int32} {s0' : Int} (hs0 : tI s0 = s0') {S : Mem} {S' : MZ} (hS : tz S = S') : Lf tI (f_X12_isIn_18 s0 S) = g_X12_isIn_18 s0' S' := by
  unfold f_X12_isIn_18 g_X12_isIn_18
  exact (Lf_if (c_isB hs0) (Lf_some hs0 hS) rfl)
def g_X12_isIn_17 (S : MZ) : Option (Int × MZ) := (g_X12_isIn_18 0 S)
theorem l_X12_isIn_17 {S : Mem} {S' : MZ} (hS : tz S = S') : Lf tI (f_X12_isIn_17 S) = g_X12_isIn_17 S' := by
  unfold f_X12_isIn_17 g_X12_isIn_17
  exact (l_X12_isIn_18 rfl hS)
def g_X12_isIn (p0 : Int) (p2 : Int) (p4 : Int) (S : MZ) : Option (Int × MZ) := (if p0 < p2 then (g_X12_isIn_17 S) else (if p4 < p0 then (g_X12_isIn_17 S) else (g_X12_isIn_18 1 S)))
theorem l_X12_isIn {p0 : Int64} {p0' : Int} (hp0 : tJ p0 = p0') {p2 : Int64} {p2' : Int} (hp2 : tJ p2 = p2') {p4 : Int64} {p4' : Int} (hp4 : tJ p4 = p4') {S : Mem} {S' : MZ} (hS : tz S = S') : Lf tI (f_X12_isIn p0 p2 p4 S) = g_X12_isIn p0' p2' p4' S' := by
  unfold f_X12_isIn g_X12_isIn
  exact (Lf_if (cJ_lt hp0 hp2) (l_X12_isIn_17 hS) (Lf_if (cJ_lt hp4 hp0) (l_X12_isIn_17 hS) (l_X12_isIn_18 rfl hS)))
def g_X12_up (p0 : Int) (p2 : Int) (S : MZ) : Option (Int × MZ) := (if p2 = 0 then none else (some ((w64 (Int.tdiv (w64 ((w64 (p0 + p2)) - 1)) p2)), S)))
theorem l_X12_up {p0 : Int64} {p0' : Int} (hp0 : tJ p0 = p0') {p2 : Int64} {p2' : Int} (hp2 : tJ p2 = p2') {S : Mem} {S' : MZ} (hS : tz S = S') : Lf tJ (f_X12_up p0 p2 S) = g_X12_up p0' p2' S' := by
  unfold f_X12_up g_X12_up
  exact (Lf_if (cJ_eq hp2 rfl) rfl (Lf_some (pJ_div (pJ_sub (pJ_add hp0 hp2) rfl) hp2) hS))
def g_X12_zoneOf_27 (v3 : Int) (S : MZ) : Option (Int × MZ) := (some (v3, S))
theorem l_X12_zoneOf_27 {v3 : Int32} {v3' : Int} (hv3 : tI v3 = v3') {S : Mem} {S' : MZ} (hS : tz S = S') : Lf tI (f_X12_zoneOf_27 v3 S) = g_X12_zoneOf_27 v3' S' := by
  unfold f_X12_zoneOf_27 g_X12_zoneOf_27
  exact (Lf_some hv3 hS)
def g_X12_zoneOf_2B (k2 : Int → Int → MZ → Option (Int × MZ)) (v1 : Int) (v3 : Int) (S : MZ) : Option (Int × MZ) := (if 39 ≤ v3 then (g_X12_zoneOf_27 v3 S) else (if (0 ≤ (w32 (v3 + 1)) ∧ (w32 (v3 + 1)) < ((41 : Nat) : Int)) then (if v1 < (zL S 21 ((w32 (v3 + 1))).toNat) then (g_X12_zoneOf_27 v3 S) else (k2 v1 (w32 (v3 + 1)) S)) else none))
theorem l_X12_zoneOf_2B {k2 : Int64 → Int32 → Mem → Option (Int32 × Mem)} {k2' : Int → Int → MZ → Option (Int × MZ)} (hk2 : ∀ {x0 : Int64} {x1 : Int32} {x2 : Mem} {y0 : Int} {y1 : Int} {y2 : MZ}, tJ x0 = y0 → tI x1 = y1 → tz x2 = y2 → Lf tI (k2 x0 x1 x2) = k2' y0 y1 y2) {v1 : Int64} {v1' : Int} (hv1 : tJ v1 = v1') {v3 : Int32} {v3' : Int} (hv3 : tI v3 = v3') {S : Mem} {S' : MZ} (hS : tz S = S') : Lf tI (f_X12_zoneOf_2B k2 v1 v3 S) = g_X12_zoneOf_2B k2' v1' v3' S' := by
  unfold f_X12_zoneOf_2B g_X12_zoneOf_2B
  exact (Lf_if (cI_le rfl hv3) (l_X12_zoneOf_27 hv3 hS) (Lf_if (c_inb (pI_add hv3 rfl) rfl) (Lf_if (cJ_lt hv1 (pJ_g hS rfl (pN_of (pI_add hv3 rfl)))) (l_X12_zoneOf_27 hv3 hS) (hk2 hv1 (pI_add hv3 rfl) hS)) rfl))
def g_X12_zoneOf_2 : Nat → Int → Int → MZ → Option (Int × MZ)
  | 0 => fun _ _ _ => none
  | n + 1 => g_X12_zoneOf_2B (g_X12_zoneOf_2 n)
theorem l_X12_zoneOf_2 : ∀ (n : Nat) {x0 : Int64} {x1 : Int32} {x2 : Mem} {y0 : Int} {y1 : Int} {y2 : MZ}, tJ x0 = y0 → tI x1 = y1 → tz x2 = y2 → Lf tI (f_X12_zoneOf_2 n x0 x1 x2) = g_X12_zoneOf_2 n y0 y1 y2
  | 0, _, _, _, _, _, _, _, _, _ => rfl
  | n + 1, _, _, _, _, _, _, e0, e1, e2 => l_X12_zoneOf_2B (fun de0 de1 de2 => l_X12_zoneOf_2 n de0 de1 de2) e0 e1 e2
def g_X12_zoneOf (p1 : Int) (S : MZ) : Option (Int × MZ) := (g_X12_zoneOf_2 100000 p1 0 S)
theorem l_X12_zoneOf {p1 : Int64} {p1' : Int} (hp1 : tJ p1 = p1') {S : Mem} {S' : MZ} (hS : tz S = S') : Lf tI (f_X12_zoneOf p1 S) = g_X12_zoneOf p1' S' := by
  unfold f_X12_zoneOf g_X12_zoneOf
  exact (l_X12_zoneOf_2 100000 hp1 rfl hS)
def g_X12_feeOf (p1 : Int) (S : MZ) : Option (Int × MZ) := (if (0 ≤ (w32 ((w32 (5 * p1)) + 2)) ∧ (w32 ((w32 (5 * p1)) + 2)) < ((25 : Nat) : Int)) then (some ((zI S 22 ((w32 ((w32 (5 * p1)) + 2))).toNat), S)) else none)
theorem l_X12_feeOf {p1 : Int32} {p1' : Int} (hp1 : tI p1 = p1') {S : Mem} {S' : MZ} (hS : tz S = S') : Lf tI (f_X12_feeOf p1 S) = g_X12_feeOf p1' S' := by
  unfold f_X12_feeOf g_X12_feeOf
  exact (Lf_if (c_inb (pI_add (pI_mul rfl hp1) rfl) rfl) (Lf_some (pI_g hS rfl (pN_of (pI_add (pI_mul rfl hp1) rfl))) hS) rfl)
def g_X12_keeps_2B (k2 : Int → Int → MZ → Option (Unit × MZ)) (v1 : Int) (v2 : Int) (S : MZ) : Option (Unit × MZ) := (if 258 ≤ v2 then (some ((), S)) else (if (0 ≤ v2 ∧ v2 < ((258 : Nat) : Int)) then (if (0 ≤ (w32 ((w32 (258 * v1)) + v2)) ∧ (w32 ((w32 (258 * v1)) + v2)) < ((516 : Nat) : Int)) then (k2 v1 (w32 (v2 + 1)) (uL S 24 ((w32 ((w32 (258 * v1)) + v2))).toNat (zL S 23 (v2).toNat))) else none) else none))
theorem l_X12_keeps_2B {k2 : Int32 → Int32 → Mem → Option (Unit × Mem)} {k2' : Int → Int → MZ → Option (Unit × MZ)} (hk2 : ∀ {x0 : Int32} {x1 : Int32} {x2 : Mem} {y0 : Int} {y1 : Int} {y2 : MZ}, tI x0 = y0 → tI x1 = y1 → tz x2 = y2 → Lf tU (k2 x0 x1 x2) = k2' y0 y1 y2) {v1 : Int32} {v1' : Int} (hv1 : tI v1 = v1') {v2 : Int32} {v2' : Int} (hv2 : tI v2 = v2') {S : Mem} {S' : MZ} (hS : tz S = S') : Lf tU (f_X12_keeps_2B k2 v1 v2 S) = g_X12_keeps_2B k2' v1' v2' S' := by
  unfold f_X12_keeps_2B g_X12_keeps_2B
  exact (Lf_if (cI_le rfl hv2) (Lf_some rfl hS) (Lf_if (c_inb hv2 rfl) (Lf_if (c_inb (pI_add (pI_mul rfl hv1) hv2) rfl) (hk2 hv1 (pI_add hv2 rfl) (pM_L hS rfl (pN_of (pI_add (pI_mul rfl hv1) hv2)) (pJ_g hS rfl (pN_of hv2)))) rfl) rfl))
def g_X12_keeps_2 : Nat → Int → Int → MZ → Option (Unit × MZ)
  | 0 => fun _ _ _ => none
  | n + 1 => g_X12_keeps_2B (g_X12_keeps_2 n)
theorem l_X12_keeps_2 : ∀ (n : Nat) {x0 : Int32} {x1 : Int32} {x2 : Mem} {y0 : Int} {y1 : Int} {y2 : MZ}, tI x0 = y0 → tI x1 = y1 → tz x2 = y2 → Lf tU (f_X12_keeps_2 n x0 x1 x2) = g_X12_keeps_2 n y0 y1 y2
  | 0, _, _, _, _, _, _, _, _, _ => rfl
  | n + 1, _, _, _, _, _, _, e0, e1, e2 => l_X12_keeps_2B (fun de0 de1 de2 => l_X12_keeps_2 n de0 de1 de2) e0 e1 e2
def g_X12_keeps (p1 : Int) (S : MZ) : Option (Unit × MZ) := (g_X12_keeps_2 100000 p1 0 S)
theorem l_X12_keeps {p1 : Int32} {p1' : Int} (hp1 : tI p1 = p1') {S : Mem} {S' : MZ} (hS : tz S = S') : Lf tU (f_X12_keeps p1 S) = g_X12_keeps p1' S' := by
  unfold f_X12_keeps g_X12_keeps
  exact (l_X12_keeps_2 100000 hp1 rfl hS)
def g_X12_laysBack_2B (k2 : Int → Int → MZ → Option (Unit × MZ)) (v1 : Int) (v2 : Int) (S : MZ) : Option (Unit × MZ) := (if 258 ≤ v2 then (some ((), S)) else (if (0 ≤ (w32 ((w32 (258 * v1)) + v2)) ∧ (w32 ((w32 (258 * v1)) + v2)) < ((516 : Nat) : Int)) then (if (0 ≤ v2 ∧ v2 < ((258 : Nat) : Int)) then (k2 v1 (w32 (v2 + 1)) (uL S 23 (v2).toNat (zL S 24 ((w32 ((w32 (258 * v1)) + v2))).toNat))) else none) else none))
theorem l_X12_laysBack_2B {k2 : Int32 → Int32 → Mem → Option (Unit × Mem)} {k2' : Int → Int → MZ → Option (Unit × MZ)} (hk2 : ∀ {x0 : Int32} {x1 : Int32} {x2 : Mem} {y0 : Int} {y1 : Int} {y2 : MZ}, tI x0 = y0 → tI x1 = y1 → tz x2 = y2 → Lf tU (k2 x0 x1 x2) = k2' y0 y1 y2) {v1 : Int32} {v1' : Int} (hv1 : tI v1 = v1') {v2 : Int32} {v2' : Int} (hv2 : tI v2 = v2') {S : Mem} {S' : MZ} (hS : tz S = S') : Lf tU (f_X12_laysBack_2B k2 v1 v2 S) = g_X12_laysBack_2B k2' v1' v2' S' := by
  unfold f_X12_laysBack_2B g_X12_laysBack_2B
  exact (Lf_if (cI_le rfl hv2) (Lf_some rfl hS) (Lf_if (c_inb (pI_add (pI_mul rfl hv1) hv2) rfl) (Lf_if (c_inb hv2 rfl) (hk2 hv1 (pI_add hv2 rfl) (pM_L hS rfl (pN_of hv2) (pJ_g hS rfl (pN_of (pI_add (pI_mul rfl hv1) hv2))))) rfl) rfl))
def g_X12_laysBack_2 : Nat → Int → Int → MZ → Option (Unit × MZ)
  | 0 => fun _ _ _ => none
  | n + 1 => g_X12_laysBack_2B (g_X12_laysBack_2 n)
theorem l_X12_laysBack_2 : ∀ (n : Nat) {x0 : Int32} {x1 : Int32} {x2 : Mem} {y0 : Int} {y1 : Int} {y2 : MZ}, tI x0 = y0 → tI x1 = y1 → tz x2 = y2 → Lf tU (f_X12_laysBack_2 n x0 x1 x2) = g_X12_laysBack_2 n y0 y1 y2
  | 0, _, _, _, _, _, _, _, _, _ => rfl
  | n + 1, _, _, _, _, _, _, e0, e1, e2 => l_X12_laysBack_2B (fun de0 de1 de2 => l_X12_laysBack_2 n de0 de1 de2) e0 e1 e2
def g_X12_laysBack (p1 : Int) (S : MZ) : Option (Unit × MZ) := (g_X12_laysBack_2 100000 p1 0 S)
theorem l_X12_laysBack {p1 : Int32} {p1' : Int} (hp1 : tI p1 = p1') {S : Mem} {S' : MZ} (hS : tz S = S') : Lf tU (f_X12_laysBack p1 S) = g_X12_laysBack p1' S' := by
  unfold f_X12_laysBack g_X12_laysBack
  exact (l_X12_laysBack_2 100000 hp1 rfl hS)
def g_X12_ofPool (p1 : Int) (p2 : Int) (S : MZ) : Option (Int × MZ) := (if (0 ≤ (w32 ((w32 (22 + (w32 (23 * p1)))) + p2)) ∧ (w32 ((w32 (22 + (w32 (23 * p1)))) + p2)) < ((258 : Nat) : Int)) then (some ((zL S 23 ((w32 ((w32 (22 + (w32 (23 * p1)))) + p2))).toNat), S)) else none)
theorem l_X12_ofPool {p1 : Int32} {p1' : Int} (hp1 : tI p1 = p1') {p2 : Int32} {p2' : Int} (hp2 : tI p2 = p2') {S : Mem} {S' : MZ} (hS : tz S = S') : Lf tJ (f_X12_ofPool p1 p2 S) = g_X12_ofPool p1' p2' S' := by
  unfold f_X12_ofPool g_X12_ofPool
  exact (Lf_if (c_inb (pI_add (pI_add rfl (pI_mul rfl hp1)) hp2) rfl) (Lf_some (pJ_g hS rfl (pN_of (pI_add (pI_add rfl (pI_mul rfl hp1)) hp2))) hS) rfl)
def g_X12_setPool (p1 : Int) (p2 : Int) (p3 : Int) (S : MZ) : Option (Unit × MZ) := (if (0 ≤ (w32 ((w32 (22 + (w32 (23 * p1)))) + p2)) ∧ (w32 ((w32 (22 + (w32 (23 * p1)))) + p2)) < ((258 : Nat) : Int)) then (some ((), (uL S 23 ((w32 ((w32 (22 + (w32 (23 * p1)))) + p2))).toNat p3))) else none)
theorem l_X12_setPool {p1 : Int32} {p1' : Int} (hp1 : tI p1 = p1') {p2 : Int32} {p2' : Int} (hp2 : tI p2 = p2') {p3 : Int64} {p3' : Int} (hp3 : tJ p3 = p3') {S : Mem} {S' : MZ} (hS : tz S = S') : Lf tU (f_X12_setPool p1 p2 p3 S) = g_X12_setPool p1' p2' p3' S' := by
  unfold f_X12_setPool g_X12_setPool
  exact (Lf_if (c_inb (pI_add (pI_add rfl (pI_mul rfl hp1)) hp2) rfl) (Lf_some rfl (pM_L hS rfl (pN_of (pI_add (pI_add rfl (pI_mul rfl hp1)) hp2)) hp3)) rfl)
def g_X12_morePool (p1 : Int) (p2 : Int) (p3 : Int) (S : MZ) : Option (Unit × MZ) := (if (0 ≤ (w32 ((w32 (22 + (w32 (23 * p1)))) + p2)) ∧ (w32 ((w32 (22 + (w32 (23 * p1)))) + p2)) < ((258 : Nat) : Int)) then (if (0 ≤ (w32 ((w32 (22 + (w32 (23 * p1)))) + p2)) ∧ (w32 ((w32 (22 + (w32 (23 * p1)))) + p2)) < ((258 : Nat) : Int)) then (some ((), (uL S 23 ((w32 ((w32 (22 + (w32 (23 * p1)))) + p2))).toNat (w64 ((zL S 23 ((w32 ((w32 (22 + (w32 (23 * p1)))) + p2))).toNat) + p3))))) else none) else none)
theorem l_X12_morePool {p1 : Int32} {p1' : Int} (hp1 : tI p1 = p1') {p2 : Int32} {p2' : Int} (hp2 : tI p2 = p2') {p3 : Int64} {p3' : Int} (hp3 : tJ p3 = p3') {S : Mem} {S' : MZ} (hS : tz S = S') : Lf tU (f_X12_morePool p1 p2 p3 S) = g_X12_morePool p1' p2' p3' S' := by
  unfold f_X12_morePool g_X12_morePool
  exact (Lf_if (c_inb (pI_add (pI_add rfl (pI_mul rfl hp1)) hp2) rfl) (Lf_if (c_inb (pI_add (pI_add rfl (pI_mul rfl hp1)) hp2) rfl) (Lf_some rfl (pM_L hS rfl (pN_of (pI_add (pI_add rfl (pI_mul rfl hp1)) hp2)) (pJ_add (pJ_g hS rfl (pN_of (pI_add (pI_add rfl (pI_mul rfl hp1)) hp2))) hp3))) rfl) rfl)
def g_X12_ofStake (p1 : Int) (p2 : Int) (S : MZ) : Option (Int × MZ) := (if (0 ≤ (w32 ((w32 (138 + (w32 (10 * p1)))) + p2)) ∧ (w32 ((w32 (138 + (w32 (10 * p1)))) + p2)) < ((258 : Nat) : Int)) then (some ((zL S 23 ((w32 ((w32 (138 + (w32 (10 * p1)))) + p2))).toNat), S)) else none)
theorem l_X12_ofStake {p1 : Int32} {p1' : Int} (hp1 : tI p1 = p1') {p2 : Int32} {p2' : Int} (hp2 : tI p2 = p2') {S : Mem} {S' : MZ} (hS : tz S = S') : Lf tJ (f_X12_ofStake p1 p2 S) = g_X12_ofStake p1' p2' S' := by
  unfold f_X12_ofStake g_X12_ofStake
  exact (Lf_if (c_inb (pI_add (pI_add rfl (pI_mul rfl hp1)) hp2) rfl) (Lf_some (pJ_g hS rfl (pN_of (pI_add (pI_add rfl (pI_mul rfl hp1)) hp2))) hS) rfl)
def g_X12_setStake (p1 : Int) (p2 : Int) (p3 : Int) (S : MZ) : Option (Unit × MZ) := (if (0 ≤ (w32 ((w32 (138 + (w32 (10 * p1)))) + p2)) ∧ (w32 ((w32 (138 + (w32 (10 * p1)))) + p2)) < ((258 : Nat) : Int)) then (some ((), (uL S 23 ((w32 ((w32 (138 + (w32 (10 * p1)))) + p2))).toNat p3))) else none)
theorem l_X12_setStake {p1 : Int32} {p1' : Int} (hp1 : tI p1 = p1') {p2 : Int32} {p2' : Int} (hp2 : tI p2 = p2') {p3 : Int64} {p3' : Int} (hp3 : tJ p3 = p3') {S : Mem} {S' : MZ} (hS : tz S = S') : Lf tU (f_X12_setStake p1 p2 p3 S) = g_X12_setStake p1' p2' p3' S' := by
  unfold f_X12_setStake g_X12_setStake
  exact (Lf_if (c_inb (pI_add (pI_add rfl (pI_mul rfl hp1)) hp2) rfl) (Lf_some rfl (pM_L hS rfl (pN_of (pI_add (pI_add rfl (pI_mul rfl hp1)) hp2)) hp3)) rfl)
def g_X12_stakes (S : MZ) : Option (Int × MZ) := (some ((w32 (zL S 23 137)), S))
theorem l_X12_stakes {S : Mem} {S' : MZ} (hS : tz S = S') : Lf tI (f_X12_stakes S) = g_X12_stakes S' := by
  unfold f_X12_stakes g_X12_stakes
  exact (Lf_some (pI_of (pJ_g hS rfl (pN_of (a' := 137) rfl))) hS)
def g_X12_zoneNow (p1 : Int) (S : MZ) : Option (Int × MZ) := ((g_X12_ofPool p1 1 S).bind fun q3 => (some ((w32 q3.1), q3.2)))
theorem l_X12_zoneNow {p1 : Int32} {p1' : Int} (hp1 : tI p1 = p1') {S : Mem} {S' : MZ} (hS : tz S = S') : Lf tI (f_X12_zoneNow p1 S) = g_X12_zoneNow p1' S' := by
  unfold f_X12_zoneNow g_X12_zoneNow
  exact (Lf_bind (l_X12_ofPool hp1 rfl hS) (fun q3 => (Lf_some (pI_of rfl) rfl)))
def g_X12_thingOf (p1 : Int) (p2 : Int) (S : MZ) : Option (Int × MZ) := (if (0 ≤ (w32 ((w32 (5 * p1)) + p2)) ∧ (w32 ((w32 (5 * p1)) + p2)) < ((25 : Nat) : Int)) then (some ((zI S 22 ((w32 ((w32 (5 * p1)) + p2))).toNat), S)) else none)
theorem l_X12_thingOf {p1 : Int32} {p1' : Int} (hp1 : tI p1 = p1') {p2 : Int32} {p2' : Int} (hp2 : tI p2 = p2') {S : Mem} {S' : MZ} (hS : tz S = S') : Lf tI (f_X12_thingOf p1 p2 S) = g_X12_thingOf p1' p2' S' := by
  unfold f_X12_thingOf g_X12_thingOf
  exact (Lf_if (c_inb (pI_add (pI_mul rfl hp1) hp2) rfl) (Lf_some (pI_g hS rfl (pN_of (pI_add (pI_mul rfl hp1) hp2))) hS) rfl)
def g_X12_inPurse (p1 : Int) (p2 : Int) (S : MZ) : Option (Int × MZ) := (if (0 ≤ (w32 ((w32 (2 + (w32 (5 * p1)))) + p2)) ∧ (w32 ((w32 (2 + (w32 (5 * p1)))) + p2)) < ((258 : Nat) : Int)) then (some ((zL S 23 ((w32 ((w32 (2 + (w32 (5 * p1)))) + p2))).toNat), S)) else none)
theorem l_X12_inPurse {p1 : Int32} {p1' : Int} (hp1 : tI p1 = p1') {p2 : Int32} {p2' : Int} (hp2 : tI p2 = p2') {S : Mem} {S' : MZ} (hS : tz S = S') : Lf tJ (f_X12_inPurse p1 p2 S) = g_X12_inPurse p1' p2' S' := by
  unfold f_X12_inPurse g_X12_inPurse
  exact (Lf_if (c_inb (pI_add (pI_add rfl (pI_mul rfl hp1)) hp2) rfl) (Lf_some (pJ_g hS rfl (pN_of (pI_add (pI_add rfl (pI_mul rfl hp1)) hp2))) hS) rfl)
def g_X12_morePurse (p1 : Int) (p2 : Int) (p3 : Int) (S : MZ) : Option (Unit × MZ) := (if (0 ≤ (w32 ((w32 (2 + (w32 (5 * p1)))) + p2)) ∧ (w32 ((w32 (2 + (w32 (5 * p1)))) + p2)) < ((258 : Nat) : Int)) then (if (0 ≤ (w32 ((w32 (2 + (w32 (5 * p1)))) + p2)) ∧ (w32 ((w32 (2 + (w32 (5 * p1)))) + p2)) < ((258 : Nat) : Int)) then (some ((), (uL S 23 ((w32 ((w32 (2 + (w32 (5 * p1)))) + p2))).toNat (w64 ((zL S 23 ((w32 ((w32 (2 + (w32 (5 * p1)))) + p2))).toNat) + p3))))) else none) else none)
theorem l_X12_morePurse {p1 : Int32} {p1' : Int} (hp1 : tI p1 = p1') {p2 : Int32} {p2' : Int} (hp2 : tI p2 = p2') {p3 : Int64} {p3' : Int} (hp3 : tJ p3 = p3') {S : Mem} {S' : MZ} (hS : tz S = S') : Lf tU (f_X12_morePurse p1 p2 p3 S) = g_X12_morePurse p1' p2' p3' S' := by
  unfold f_X12_morePurse g_X12_morePurse
  exact (Lf_if (c_inb (pI_add (pI_add rfl (pI_mul rfl hp1)) hp2) rfl) (Lf_if (c_inb (pI_add (pI_add rfl (pI_mul rfl hp1)) hp2) rfl) (Lf_some rfl (pM_L hS rfl (pN_of (pI_add (pI_add rfl (pI_mul rfl hp1)) hp2)) (pJ_add (pJ_g hS rfl (pN_of (pI_add (pI_add rfl (pI_mul rfl hp1)) hp2))) hp3))) rfl) rfl)
def g_X12_isPool_17 (s0 : Int) (S : MZ) : Option (Int × MZ) := (if (s0 = 0 ∨ s0 = 1) then (some (s0, S)) else none)
theorem l_X12_isPool_17 {s0 : Int32} {s0' : Int} (hs0 : tI s0 = s0') {S : Mem} {S' : MZ} (hS : tz S = S') : Lf tI (f_X12_isPool_17 s0 S) = g_X12_isPool_17 s0' S' := by
  unfold f_X12_isPool_17 g_X12_isPool_17
  exact (Lf_if (c_isB hs0) (Lf_some hs0 hS) rfl)
def g_X12_isPool_16 (S : MZ) : Option (Int × MZ) := (g_X12_isPool_17 0 S)
theorem l_X12_isPool_16 {S : Mem} {S' : MZ} (hS : tz S = S') : Lf tI (f_X12_isPool_16 S) = g_X12_isPool_16 S' := by
  unfold f_X12_isPool_16 g_X12_isPool_16
  exact (l_X12_isPool_17 rfl hS)
def g_X12_isPool (p1 : Int) (S : MZ) : Option (Int × MZ) := (if p1 < 0 then (g_X12_isPool_16 S) else (if (zI S 20 3) ≤ p1 then (g_X12_isPool_16 S) else (g_X12_isPool_17 1 S)))
theorem l_X12_isPool {p1 : Int32} {p1' : Int} (hp1 : tI p1 = p1') {S : Mem} {S' : MZ} (hS : tz S = S') : Lf tI (f_X12_isPool p1 S) = g_X12_isPool p1' S' := by
  unfold f_X12_isPool g_X12_isPool
  exact (Lf_if (cI_lt hp1 rfl) (l_X12_isPool_16 hS) (Lf_if (cI_le (pI_g hS rfl rfl) hp1) (l_X12_isPool_16 hS) (l_X12_isPool_17 rfl hS)))
def g_X12_isPerson_17 (s0 : Int) (S : MZ) : Option (Int × MZ) := (if (s0 = 0 ∨ s0 = 1) then (some (s0, S)) else none)
theorem l_X12_isPerson_17 {s0 : Int32} {s0' : Int} (hs0 : tI s0 = s0') {S : Mem} {S' : MZ} (hS : tz S = S') : Lf tI (f_X12_isPerson_17 s0 S) = g_X12_isPerson_17 s0' S' := by
  unfold f_X12_isPerson_17 g_X12_isPerson_17
  exact (Lf_if (c_isB hs0) (Lf_some hs0 hS) rfl)
def g_X12_isPerson_16 (S : MZ) : Option (Int × MZ) := (g_X12_isPerson_17 0 S)
theorem l_X12_isPerson_16 {S : Mem} {S' : MZ} (hS : tz S = S') : Lf tI (f_X12_isPerson_16 S) = g_X12_isPerson_16 S' := by
  unfold f_X12_isPerson_16 g_X12_isPerson_16
  exact (l_X12_isPerson_17 rfl hS)
def g_X12_isPerson (p1 : Int) (S : MZ) : Option (Int × MZ) := (if p1 < 0 then (g_X12_isPerson_16 S) else (if (zI S 20 2) ≤ p1 then (g_X12_isPerson_16 S) else (g_X12_isPerson_17 1 S)))
theorem l_X12_isPerson {p1 : Int32} {p1' : Int} (hp1 : tI p1 = p1') {S : Mem} {S' : MZ} (hS : tz S = S') : Lf tI (f_X12_isPerson p1 S) = g_X12_isPerson p1' S' := by
  unfold f_X12_isPerson g_X12_isPerson
  exact (Lf_if (cI_lt hp1 rfl) (l_X12_isPerson_16 hS) (Lf_if (cI_le (pI_g hS rfl rfl) hp1) (l_X12_isPerson_16 hS) (l_X12_isPerson_17 rfl hS)))
def g_X12_isThing_17 (s0 : Int) (S : MZ) : Option (Int × MZ) := (if (s0 = 0 ∨ s0 = 1) then (some (s0, S)) else none)
theorem l_X12_isThing_17 {s0 : Int32} {s0' : Int} (hs0 : tI s0 = s0') {S : Mem} {S' : MZ} (hS : tz S = S') : Lf tI (f_X12_isThing_17 s0 S) = g_X12_isThing_17 s0' S' := by
  unfold f_X12_isThing_17 g_X12_isThing_17
  exact (Lf_if (c_isB hs0) (Lf_some hs0 hS) rfl)
def g_X12_isThing_16 (S : MZ) : Option (Int × MZ) := (g_X12_isThing_17 0 S)
theorem l_X12_isThing_16 {S : Mem} {S' : MZ} (hS : tz S = S') : Lf tI (f_X12_isThing_16 S) = g_X12_isThing_16 S' := by
  unfold f_X12_isThing_16 g_X12_isThing_16
  exact (l_X12_isThing_17 rfl hS)
def g_X12_isThing (p1 : Int) (S : MZ) : Option (Int × MZ) := (if p1 < 0 then (g_X12_isThing_16 S) else (if (zI S 20 1) ≤ p1 then (g_X12_isThing_16 S) else (g_X12_isThing_17 1 S)))
theorem l_X12_isThing {p1 : Int32} {p1' : Int} (hp1 : tI p1 = p1') {S : Mem} {S' : MZ} (hS : tz S = S') : Lf tI (f_X12_isThing p1 S) = g_X12_isThing p1' S' := by
  unfold f_X12_isThing g_X12_isThing
  exact (Lf_if (cI_lt hp1 rfl) (l_X12_isThing_16 hS) (Lf_if (cI_le (pI_g hS rfl rfl) hp1) (l_X12_isThing_16 hS) (l_X12_isThing_17 rfl hS)))
def g_X12_isStake_17 (s0 : Int) (S : MZ) : Option (Int × MZ) := (if (s0 = 0 ∨ s0 = 1) then (some (s0, S)) else none)
theorem l_X12_isStake_17 {s0 : Int32} {s0' : Int} (hs0 : tI s0 = s0') {S : Mem} {S' : MZ} (hS : tz S = S') : Lf tI (f_X12_isStake_17 s0 S) = g_X12_isStake_17 s0' S' := by
  unfold f_X12_isStake_17 g_X12_isStake_17
  exact (Lf_if (c_isB hs0) (Lf_some hs0 hS) rfl)
def g_X12_isStake_16 (S : MZ) : Option (Int × MZ) := (g_X12_isStake_17 0 S)
theorem l_X12_isStake_16 {S : Mem} {S' : MZ} (hS : tz S = S') : Lf tI (f_X12_isStake_16 S) = g_X12_isStake_16 S' := by
  unfold f_X12_isStake_16 g_X12_isStake_16
  exact (l_X12_isStake_17 rfl hS)
def g_X12_isStake (p1 : Int) (S : MZ) : Option (Int × MZ) := (if p1 < 0 then (g_X12_isStake_16 S) else ((g_X12_stakes S).bind fun q6 => (if q6.1 ≤ p1 then (g_X12_isStake_16 q6.2) else (g_X12_isStake_17 1 q6.2))))
theorem l_X12_isStake {p1 : Int32} {p1' : Int} (hp1 : tI p1 = p1') {S : Mem} {S' : MZ} (hS : tz S = S') : Lf tI (f_X12_isStake p1 S) = g_X12_isStake p1' S' := by
  unfold f_X12_isStake g_X12_isStake
  exact (Lf_if (cI_lt hp1 rfl) (l_X12_isStake_16 hS) (Lf_bind (l_X12_stakes hS) (fun q6 => (Lf_if (cI_le rfl hp1) (l_X12_isStake_16 rfl) (l_X12_isStake_17 rfl rfl)))))
def g_X12_feed_68 (k15 : Int → Int → Int → Int → Int → Int → MZ → Option (Int × MZ)) (v1 : Int) (v2 : Int) (v3 : Int) (v4 : Int) (v5 : Int) (v6 : Int) (s0 : Int) (S : MZ) : Option (Int × MZ) := (if (0 ≤ (w32 ((zI S 20 8) + v6)) ∧ (w32 ((zI S 20 8) + v6)) < ((400 : Nat) : Int)) then (k15 v1 v2 v3 v4 v5 (w32 (v6 + 1)) (uI S 25 ((w32 ((zI S 20 8) + v6))).toNat (w8 (w8 (shr32 s0 (and32 (w32 (24 - (w32 (8 * (Int.tmod v6 4))))) 31)))))) else none)
theorem l_X12_feed_68 {k15 : Int32 → Int32 → Int32 → Int32 → Int32 → Int32 → Mem → Option (Int32 × Mem)} {k15' : Int → Int → Int → Int → Int → Int → MZ → Option (Int × MZ)} (hk15 : ∀ {x0 : Int32} {x1 : Int32} {x2 : Int32} {x3 : Int32} {x4 : Int32} {x5 : Int32} {x6 : Mem} {y0 : Int} {y1 : Int} {y2 : Int} {y3 : Int} {y4 : Int} {y5 : Int} {y6 : MZ}, tI x0 = y0 → tI x1 = y1 → tI x2 = y2 → tI x3 = y3 → tI x4 = y4 → tI x5 = y5 → tz x6 = y6 → Lf tI (k15 x0 x1 x2 x3 x4 x5 x6) = k15' y0 y1 y2 y3 y4 y5 y6) {v1 : Int32} {v1' : Int} (hv1 : tI v1 = v1') {v2 : Int32} {v2' : Int} (hv2 : tI v2 = v2') {v3 : Int32} {v3' : Int} (hv3 : tI v3 = v3') {v4 : Int32} {v4' : Int} (hv4 : tI v4 = v4') {v5 : Int32} {v5' : Int} (hv5 : tI v5 = v5') {v6 : Int32} {v6' : Int} (hv6 : tI v6 = v6') {s0 : Int32} {s0' : Int} (hs0 : tI s0 = s0') {S : Mem} {S' : MZ} (hS : tz S = S') : Lf tI (f_X12_feed_68 k15 v1 v2 v3 v4 v5 v6 s0 S) = g_X12_feed_68 k15' v1' v2' v3' v4' v5' v6' s0' S' := by
  unfold f_X12_feed_68 g_X12_feed_68
  exact (Lf_if (c_inb (pI_add (pI_g hS rfl rfl) hv6) rfl) (hk15 hv1 hv2 hv3 hv4 hv5 (pI_add hv6 rfl) (pM_I hS rfl (pN_of (pI_add (pI_g hS rfl rfl) hv6)) (pI_w8 (pI_w8 (pI_shr hs0 (pI_and (pI_sub rfl (pI_mul rfl (pI_mod hv6 rfl))) rfl)))))) rfl)
def g_X12_feed_15B (k15 : Int → Int → Int → Int → Int → Int → MZ → Option (Int × MZ)) (v1 : Int) (v2 : Int) (v3 : Int) (v4 : Int) (v5 : Int) (v6 : Int) (S : MZ) : Option (Int × MZ) := (if 20 ≤ v6 then (some ((zI (uI S 20 8 (w32 ((zI S 20 8) + 20))) 20 8), (uI S 20 8 (w32 ((zI S 20 8) + 20))))) else (if 4 ≤ v6 then (if 8 ≤ v6 then (if 12 ≤ v6 then (if 16 ≤ v6 then (g_X12_feed_68 k15 v1 v2 v3 v4 v5 v6 v5 S) else (g_X12_feed_68 k15 v1 v2 v3 v4 v5 v6 v4 S)) else (g_X12_feed_68 k15 v1 v2 v3 v4 v5 v6 v3 S)) else (g_X12_feed_68 k15 v1 v2 v3 v4 v5 v6 v2 S)) else (g_X12_feed_68 k15 v1 v2 v3 v4 v5 v6 v1 S)))
theorem l_X12_feed_15B {k15 : Int32 → Int32 → Int32 → Int32 → Int32 → Int32 → Mem → Option (Int32 × Mem)} {k15' : Int → Int → Int → Int → Int → Int → MZ → Option (Int × MZ)} (hk15 : ∀ {x0 : Int32} {x1 : Int32} {x2 : Int32} {x3 : Int32} {x4 : Int32} {x5 : Int32} {x6 : Mem} {y0 : Int} {y1 : Int} {y2 : Int} {y3 : Int} {y4 : Int} {y5 : Int} {y6 : MZ}, tI x0 = y0 → tI x1 = y1 → tI x2 = y2 → tI x3 = y3 → tI x4 = y4 → tI x5 = y5 → tz x6 = y6 → Lf tI (k15 x0 x1 x2 x3 x4 x5 x6) = k15' y0 y1 y2 y3 y4 y5 y6) {v1 : Int32} {v1' : Int} (hv1 : tI v1 = v1') {v2 : Int32} {v2' : Int} (hv2 : tI v2 = v2') {v3 : Int32} {v3' : Int} (hv3 : tI v3 = v3') {v4 : Int32} {v4' : Int} (hv4 : tI v4 = v4') {v5 : Int32} {v5' : Int} (hv5 : tI v5 = v5') {v6 : Int32} {v6' : Int} (hv6 : tI v6 = v6') {S : Mem} {S' : MZ} (hS : tz S = S') : Lf tI (f_X12_feed_15B k15 v1 v2 v3 v4 v5 v6 S) = g_X12_feed_15B k15' v1' v2' v3' v4' v5' v6' S' := by
  unfold f_X12_feed_15B g_X12_feed_15B
  exact (Lf_if (cI_le rfl hv6) (Lf_some (pI_g (pM_I hS rfl rfl (pI_add (pI_g hS rfl rfl) rfl)) rfl rfl) (pM_I hS rfl rfl (pI_add (pI_g hS rfl rfl) rfl))) (Lf_if (cI_le rfl hv6) (Lf_if (cI_le rfl hv6) (Lf_if (cI_le rfl hv6) (Lf_if (cI_le rfl hv6) (l_X12_feed_68 hk15 hv1 hv2 hv3 hv4 hv5 hv6 hv5 hS) (l_X12_feed_68 hk15 hv1 hv2 hv3 hv4 hv5 hv6 hv4 hS)) (l_X12_feed_68 hk15 hv1 hv2 hv3 hv4 hv5 hv6 hv3 hS)) (l_X12_feed_68 hk15 hv1 hv2 hv3 hv4 hv5 hv6 hv2 hS)) (l_X12_feed_68 hk15 hv1 hv2 hv3 hv4 hv5 hv6 hv1 hS)))
def g_X12_feed_15 : Nat → Int → Int → Int → Int → Int → Int → MZ → Option (Int × MZ)
  | 0 => fun _ _ _ _ _ _ _ => none
  | n + 1 => g_X12_feed_15B (g_X12_feed_15 n)
theorem l_X12_feed_15 : ∀ (n : Nat) {x0 : Int32} {x1 : Int32} {x2 : Int32} {x3 : Int32} {x4 : Int32} {x5 : Int32} {x6 : Mem} {y0 : Int} {y1 : Int} {y2 : Int} {y3 : Int} {y4 : Int} {y5 : Int} {y6 : MZ}, tI x0 = y0 → tI x1 = y1 → tI x2 = y2 → tI x3 = y3 → tI x4 = y4 → tI x5 = y5 → tz x6 = y6 → Lf tI (f_X12_feed_15 n x0 x1 x2 x3 x4 x5 x6) = g_X12_feed_15 n y0 y1 y2 y3 y4 y5 y6
  | 0, _, _, _, _, _, _, _, _, _, _, _, _, _, _, _, _, _, _, _, _, _ => rfl
  | n + 1, _, _, _, _, _, _, _, _, _, _, _, _, _, _, e0, e1, e2, e3, e4, e5, e6 => l_X12_feed_15B (fun de0 de1 de2 de3 de4 de5 de6 => l_X12_feed_15 n de0 de1 de2 de3 de4 de5 de6) e0 e1 e2 e3 e4 e5 e6
def g_X12_feed (p1 : Int) (p2 : Int) (p3 : Int) (p4 : Int) (p5 : Int) (S : MZ) : Option (Int × MZ) := (if (zI S 20 8) ≤ 380 then (g_X12_feed_15 100000 p1 p2 p3 p4 p5 0 S) else (some ((-1), S)))
theorem l_X12_feed {p1 : Int32} {p1' : Int} (hp1 : tI p1 = p1') {p2 : Int32} {p2' : Int} (hp2 : tI p2 = p2') {p3 : Int32} {p3' : Int} (hp3 : tI p3 = p3') {p4 : Int32} {p4' : Int} (hp4 : tI p4 = p4') {p5 : Int32} {p5' : Int} (hp5 : tI p5 = p5') {S : Mem} {S' : MZ} (hS : tz S = S') : Lf tI (f_X12_feed p1 p2 p3 p4 p5 S) = g_X12_feed p1' p2' p3' p4' p5' S' := by
  unfold f_X12_feed g_X12_feed
  exact (Lf_if (cI_le (pI_g hS rfl rfl) rfl) (l_X12_feed_15 100000 hp1 hp2 hp3 hp4 hp5 rfl hS) (Lf_some rfl hS))
def g_X12_end (p1 : Int) (S : MZ) : Option (Int × MZ) := ((g_X12_isIn p1 0 (zI S 20 8) S).bind fun q8 => (if q8.1 = 0 then (some ((-1), q8.2)) else (some (p1, (uI q8.2 20 8 p1)))))
theorem l_X12_end {p1 : Int32} {p1' : Int} (hp1 : tI p1 = p1') {S : Mem} {S' : MZ} (hS : tz S = S') : Lf tI (f_X12_end p1 S) = g_X12_end p1' S' := by
  unfold f_X12_end g_X12_end
  exact (Lf_bind (l_X12_isIn (pJ_of hp1) rfl (pJ_of (pI_g hS rfl rfl)) hS) (fun q8 => (Lf_if (cI_eq rfl rfl) (Lf_some rfl rfl) (Lf_some hp1 (pM_I rfl rfl rfl hp1)))))
def g_X12_fails (p1 : Int) (p2 : Int) (S : MZ) : Option (Int × MZ) := (some (0, (uI S 20 10 (w32 ((w32 (1 + (w32 (8 * p2)))) + p1)))))
theorem l_X12_fails {p1 : Int32} {p1' : Int} (hp1 : tI p1 = p1') {p2 : Int32} {p2' : Int} (hp2 : tI p2 = p2') {S : Mem} {S' : MZ} (hS : tz S = S') : Lf tI (f_X12_fails p1 p2 S) = g_X12_fails p1' p2' S' := by
  unfold f_X12_fails g_X12_fails
  exact (Lf_some rfl (pM_I hS rfl rfl (pI_add (pI_add rfl (pI_mul rfl hp2)) hp1)))
def g_X12_byteAt_22 (s0 : Int) (S : MZ) : Option (Int × MZ) := (some (s0, S))
theorem l_X12_byteAt_22 {s0 : Int32} {s0' : Int} (hs0 : tI s0 = s0') {S : Mem} {S' : MZ} (hS : tz S = S') : Lf tI (f_X12_byteAt_22 s0 S) = g_X12_byteAt_22 s0' S' := by
  unfold f_X12_byteAt_22 g_X12_byteAt_22
  exact (Lf_some hs0 hS)
def g_X12_byteAt (p1 : Int) (S : MZ) : Option (Int × MZ) := (if (zI S 20 8) ≤ p1 then (g_X12_byteAt_22 (-1) S) else (if (0 ≤ p1 ∧ p1 < ((400 : Nat) : Int)) then (g_X12_byteAt_22 (and32 (zI S 25 (p1).toNat) 255) S) else none))
theorem l_X12_byteAt {p1 : Int32} {p1' : Int} (hp1 : tI p1 = p1') {S : Mem} {S' : MZ} (hS : tz S = S') : Lf tI (f_X12_byteAt p1 S) = g_X12_byteAt p1' S' := by
  unfold f_X12_byteAt g_X12_byteAt
  exact (Lf_if (cI_le (pI_g hS rfl rfl) hp1) (l_X12_byteAt_22 rfl hS) (Lf_if (c_inb hp1 rfl) (l_X12_byteAt_22 (pI_and (pI_g hS rfl (pN_of hp1)) rfl) hS) rfl))
def g_X12_next_0B (k0 : MZ → Option (Int × MZ)) (S : MZ) : Option (Int × MZ) := ((g_X12_byteAt (zI S 20 9) S).bind fun q5 => (if q5.1 = 32 then (k0 (uI q5.2 20 9 (w32 ((zI q5.2 20 9) + 1)))) else ((g_X12_byteAt (zI q5.2 20 9) q5.2).bind fun q31 => (some (q31.1, q31.2)))))
theorem l_X12_next_0B {k0 : Mem → Option (Int32 × Mem)} {k0' : MZ → Option (Int × MZ)} (hk0 : ∀ {x0 : Mem} {y0 : MZ}, tz x0 = y0 → Lf tI (k0 x0) = k0' y0) {S : Mem} {S' : MZ} (hS : tz S = S') : Lf tI (f_X12_next_0B k0 S) = g_X12_next_0B k0' S' := by
  unfold f_X12_next_0B g_X12_next_0B
  exact (Lf_bind (l_X12_byteAt (pI_g hS rfl rfl) hS) (fun q5 => (Lf_if (cI_eq rfl rfl) (hk0 (pM_I rfl rfl rfl (pI_add (pI_g rfl rfl rfl) rfl))) (Lf_bind (l_X12_byteAt (pI_g rfl rfl rfl) rfl) (fun q31 => (Lf_some rfl rfl))))))
def g_X12_next_0 : Nat → MZ → Option (Int × MZ)
  | 0 => fun _ => none
  | n + 1 => g_X12_next_0B (g_X12_next_0 n)
theorem l_X12_next_0 : ∀ (n : Nat) {x0 : Mem} {y0 : MZ}, tz x0 = y0 → Lf tI (f_X12_next_0 n x0) = g_X12_next_0 n y0
  | 0, _, _, _ => rfl
  | n + 1, _, _, e0 => l_X12_next_0B (fun de0 => l_X12_next_0 n de0) e0
def g_X12_next (S : MZ) : Option (Int × MZ) := (g_X12_next_0 100000 S)
theorem l_X12_next {S : Mem} {S' : MZ} (hS : tz S = S') : Lf tI (f_X12_next S) = g_X12_next S' := by
  unfold f_X12_next g_X12_next
  exact (l_X12_next_0 100000 hS)
def g_X12_isDigit_17 (s0 : Int) (S : MZ) : Option (Int × MZ) := (if (s0 = 0 ∨ s0 = 1) then (some (s0, S)) else none)
theorem l_X12_isDigit_17 {s0 : Int32} {s0' : Int} (hs0 : tI s0 = s0') {S : Mem} {S' : MZ} (hS : tz S = S') : Lf tI (f_X12_isDigit_17 s0 S) = g_X12_isDigit_17 s0' S' := by
  unfold f_X12_isDigit_17 g_X12_isDigit_17
  exact (Lf_if (c_isB hs0) (Lf_some hs0 hS) rfl)
def g_X12_isDigit_16 (S : MZ) : Option (Int × MZ) := (g_X12_isDigit_17 0 S)
theorem l_X12_isDigit_16 {S : Mem} {S' : MZ} (hS : tz S = S') : Lf tI (f_X12_isDigit_16 S) = g_X12_isDigit_16 S' := by
  unfold f_X12_isDigit_16 g_X12_isDigit_16
  exact (l_X12_isDigit_17 rfl hS)
def g_X12_isDigit (p0 : Int) (S : MZ) : Option (Int × MZ) := (if p0 < 48 then (g_X12_isDigit_16 S) else (if 57 < p0 then (g_X12_isDigit_16 S) else (g_X12_isDigit_17 1 S)))
theorem l_X12_isDigit {p0 : Int32} {p0' : Int} (hp0 : tI p0 = p0') {S : Mem} {S' : MZ} (hS : tz S = S') : Lf tI (f_X12_isDigit p0 S) = g_X12_isDigit p0' S' := by
  unfold f_X12_isDigit g_X12_isDigit
  exact (Lf_if (cI_lt hp0 rfl) (l_X12_isDigit_16 hS) (Lf_if (cI_lt rfl hp0) (l_X12_isDigit_16 hS) (l_X12_isDigit_17 rfl hS)))
def g_X12_isLetter_17 (s0 : Int) (S : MZ) : Option (Int × MZ) := (if (s0 = 0 ∨ s0 = 1) then (some (s0, S)) else none)
theorem l_X12_isLetter_17 {s0 : Int32} {s0' : Int} (hs0 : tI s0 = s0') {S : Mem} {S' : MZ} (hS : tz S = S') : Lf tI (f_X12_isLetter_17 s0 S) = g_X12_isLetter_17 s0' S' := by
  unfold f_X12_isLetter_17 g_X12_isLetter_17
  exact (Lf_if (c_isB hs0) (Lf_some hs0 hS) rfl)
def g_X12_isLetter_16 (S : MZ) : Option (Int × MZ) := (g_X12_isLetter_17 0 S)
theorem l_X12_isLetter_16 {S : Mem} {S' : MZ} (hS : tz S = S') : Lf tI (f_X12_isLetter_16 S) = g_X12_isLetter_16 S' := by
  unfold f_X12_isLetter_16 g_X12_isLetter_16
  exact (l_X12_isLetter_17 rfl hS)
def g_X12_isLetter (p0 : Int) (S : MZ) : Option (Int × MZ) := (if p0 < 97 then (g_X12_isLetter_16 S) else (if 122 < p0 then (g_X12_isLetter_16 S) else (g_X12_isLetter_17 1 S)))
theorem l_X12_isLetter {p0 : Int32} {p0' : Int} (hp0 : tI p0 = p0') {S : Mem} {S' : MZ} (hS : tz S = S') : Lf tI (f_X12_isLetter p0 S) = g_X12_isLetter p0' S' := by
  unfold f_X12_isLetter g_X12_isLetter
  exact (Lf_if (cI_lt hp0 rfl) (l_X12_isLetter_16 hS) (Lf_if (cI_lt rfl hp0) (l_X12_isLetter_16 hS) (l_X12_isLetter_17 rfl hS)))
def g_X12_wordHere_54 (k12 : Int → Int → MZ → Option (Int × MZ)) (v3 : Int) (s0 : Int) (S : MZ) : Option (Int × MZ) := (k12 s0 (w32 (v3 + 1)) S)
theorem l_X12_wordHere_54 {k12 : Int64 → Int32 → Mem → Option (Int64 × Mem)} {k12' : Int → Int → MZ → Option (Int × MZ)} (hk12 : ∀ {x0 : Int64} {x1 : Int32} {x2 : Mem} {y0 : Int} {y1 : Int} {y2 : MZ}, tJ x0 = y0 → tI x1 = y1 → tz x2 = y2 → Lf tJ (k12 x0 x1 x2) = k12' y0 y1 y2) {v3 : Int32} {v3' : Int} (hv3 : tI v3 = v3') {s0 : Int64} {s0' : Int} (hs0 : tJ s0 = s0') {S : Mem} {S' : MZ} (hS : tz S = S') : Lf tJ (f_X12_wordHere_54 k12 v3 s0 S) = g_X12_wordHere_54 k12' v3' s0' S' := by
  unfold f_X12_wordHere_54 g_X12_wordHere_54
  exact (hk12 hs0 (pI_add hv3 rfl) hS)
def g_X12_wordHere_77 (s0 : Int) (S : MZ) : Option (Int × MZ) := (some (s0, S))
theorem l_X12_wordHere_77 {s0 : Int64} {s0' : Int} (hs0 : tJ s0 = s0') {S : Mem} {S' : MZ} (hS : tz S = S') : Lf tJ (f_X12_wordHere_77 s0 S) = g_X12_wordHere_77 s0' S' := by
  unfold f_X12_wordHere_77 g_X12_wordHere_77
  exact (Lf_some hs0 hS)
def g_X12_wordHere_12B (k12 : Int → Int → MZ → Option (Int × MZ)) (v1 : Int) (v3 : Int) (S : MZ) : Option (Int × MZ) := ((g_X12_byteAt v3 S).bind fun q14 => ((g_X12_isLetter q14.1 q14.2).bind fun q17 => (if q17.1 = 0 then (if 8 ≤ (w32 (v3 - (zI q17.2 20 9))) then (g_X12_wordHere_77 0 q17.2) else (g_X12_wordHere_77 v1 q17.2)) else (if 7 ≤ (w32 (v3 - (zI q17.2 20 9))) then (g_X12_wordHere_54 k12 v3 0 q17.2) else ((g_X12_byteAt v3 q17.2).bind fun q41 => (g_X12_wordHere_54 k12 v3 (w64 ((w64 ((w64 (27 * v1)) + q41.1)) - 96)) q41.2))))))
theorem l_X12_wordHere_12B {k12 : Int64 → Int32 → Mem → Option (Int64 × Mem)} {k12' : Int → Int → MZ → Option (Int × MZ)} (hk12 : ∀ {x0 : Int64} {x1 : Int32} {x2 : Mem} {y0 : Int} {y1 : Int} {y2 : MZ}, tJ x0 = y0 → tI x1 = y1 → tz x2 = y2 → Lf tJ (k12 x0 x1 x2) = k12' y0 y1 y2) {v1 : Int64} {v1' : Int} (hv1 : tJ v1 = v1') {v3 : Int32} {v3' : Int} (hv3 : tI v3 = v3') {S : Mem} {S' : MZ} (hS : tz S = S') : Lf tJ (f_X12_wordHere_12B k12 v1 v3 S) = g_X12_wordHere_12B k12' v1' v3' S' := by
  unfold f_X12_wordHere_12B g_X12_wordHere_12B
  exact (Lf_bind (l_X12_byteAt hv3 hS) (fun q14 => (Lf_bind (l_X12_isLetter rfl rfl) (fun q17 => (Lf_if (cI_eq rfl rfl) (Lf_if (cI_le rfl (pI_sub hv3 (pI_g rfl rfl rfl))) (l_X12_wordHere_77 rfl rfl) (l_X12_wordHere_77 hv1 rfl)) (Lf_if (cI_le rfl (pI_sub hv3 (pI_g rfl rfl rfl))) (l_X12_wordHere_54 hk12 hv3 rfl rfl) (Lf_bind (l_X12_byteAt hv3 rfl) (fun q41 => (l_X12_wordHere_54 hk12 hv3 (pJ_sub (pJ_add (pJ_mul rfl hv1) (pJ_of rfl)) rfl) rfl)))))))))
def g_X12_wordHere_12 : Nat → Int → Int → MZ → Option (Int × MZ)
  | 0 => fun _ _ _ => none
  | n + 1 => g_X12_wordHere_12B (g_X12_wordHere_12 n)
theorem l_X12_wordHere_12 : ∀ (n : Nat) {x0 : Int64} {x1 : Int32} {x2 : Mem} {y0 : Int} {y1 : Int} {y2 : MZ}, tJ x0 = y0 → tI x1 = y1 → tz x2 = y2 → Lf tJ (f_X12_wordHere_12 n x0 x1 x2) = g_X12_wordHere_12 n y0 y1 y2
  | 0, _, _, _, _, _, _, _, _, _ => rfl
  | n + 1, _, _, _, _, _, _, e0, e1, e2 => l_X12_wordHere_12B (fun de0 de1 de2 => l_X12_wordHere_12 n de0 de1 de2) e0 e1 e2
def g_X12_wordHere (S : MZ) : Option (Int × MZ) := ((g_X12_next S).bind fun q1 => (g_X12_wordHere_12 100000 0 (zI q1.2 20 9) q1.2))
theorem l_X12_wordHere {S : Mem} {S' : MZ} (hS : tz S = S') : Lf tJ (f_X12_wordHere S) = g_X12_wordHere S' := by
  unfold f_X12_wordHere g_X12_wordHere
  exact (Lf_bind (l_X12_next hS) (fun q1 => (l_X12_wordHere_12 100000 rfl (pI_g rfl rfl rfl) rfl)))
def g_X12_passWord_0B (k0 : MZ → Option (Unit × MZ)) (S : MZ) : Option (Unit × MZ) := ((g_X12_byteAt (zI S 20 9) S).bind fun q5 => ((g_X12_isLetter q5.1 q5.2).bind fun q8 => (if q8.1 = 0 then (some ((), q8.2)) else (k0 (uI q8.2 20 9 (w32 ((zI q8.2 20 9) + 1)))))))
theorem l_X12_passWord_0B {k0 : Mem → Option (Unit × Mem)} {k0' : MZ → Option (Unit × MZ)} (hk0 : ∀ {x0 : Mem} {y0 : MZ}, tz x0 = y0 → Lf tU (k0 x0) = k0' y0) {S : Mem} {S' : MZ} (hS : tz S = S') : Lf tU (f_X12_passWord_0B k0 S) = g_X12_passWord_0B k0' S' := by
  unfold f_X12_passWord_0B g_X12_passWord_0B
  exact (Lf_bind (l_X12_byteAt (pI_g hS rfl rfl) hS) (fun q5 => (Lf_bind (l_X12_isLetter rfl rfl) (fun q8 => (Lf_if (cI_eq rfl rfl) (Lf_some rfl rfl) (hk0 (pM_I rfl rfl rfl (pI_add (pI_g rfl rfl rfl) rfl))))))))
def g_X12_passWord_0 : Nat → MZ → Option (Unit × MZ)
  | 0 => fun _ => none
  | n + 1 => g_X12_passWord_0B (g_X12_passWord_0 n)
theorem l_X12_passWord_0 : ∀ (n : Nat) {x0 : Mem} {y0 : MZ}, tz x0 = y0 → Lf tU (f_X12_passWord_0 n x0) = g_X12_passWord_0 n y0
  | 0, _, _, _ => rfl
  | n + 1, _, _, e0 => l_X12_passWord_0B (fun de0 => l_X12_passWord_0 n de0) e0
def g_X12_passWord (S : MZ) : Option (Unit × MZ) := (g_X12_passWord_0 100000 S)
theorem l_X12_passWord {S : Mem} {S' : MZ} (hS : tz S = S') : Lf tU (f_X12_passWord S) = g_X12_passWord S' := by
  unfold f_X12_passWord g_X12_passWord
  exact (l_X12_passWord_0 100000 hS)
def g_X12_reads_78 (k30 : Int → Int → Int → MZ → Option (Int × MZ)) (v1 : Int) (v2 : Int) (v3 : Int) (S : MZ) : Option (Int × MZ) := (k30 v1 v2 v3 (uI S 20 9 (w32 ((zI S 20 9) + 1))))
theorem l_X12_reads_78 {k30 : Int32 → Int32 → Int32 → Mem → Option (Int32 × Mem)} {k30' : Int → Int → Int → MZ → Option (Int × MZ)} (hk30 : ∀ {x0 : Int32} {x1 : Int32} {x2 : Int32} {x3 : Mem} {y0 : Int} {y1 : Int} {y2 : Int} {y3 : MZ}, tI x0 = y0 → tI x1 = y1 → tI x2 = y2 → tz x3 = y3 → Lf tI (k30 x0 x1 x2 x3) = k30' y0 y1 y2 y3) {v1 : Int32} {v1' : Int} (hv1 : tI v1 = v1') {v2 : Int32} {v2' : Int} (hv2 : tI v2 = v2') {v3 : Int32} {v3' : Int} (hv3 : tI v3 = v3') {S : Mem} {S' : MZ} (hS : tz S = S') : Lf tI (f_X12_reads_78 k30 v1 v2 v3 S) = g_X12_reads_78 k30' v1' v2' v3' S' := by
  unfold f_X12_reads_78 g_X12_reads_78
  exact (hk30 hv1 hv2 hv3 (pM_I hS rfl rfl (pI_add (pI_g hS rfl rfl) rfl)))
def g_X12_reads_131 (s0 : Int) (S : MZ) : Option (Int × MZ) := (if (s0 = 0 ∨ s0 = 1) then (some (s0, S)) else none)
theorem l_X12_reads_131 {s0 : Int32} {s0' : Int} (hs0 : tI s0 = s0') {S : Mem} {S' : MZ} (hS : tz S = S') : Lf tI (f_X12_reads_131 s0 S) = g_X12_reads_131 s0' S' := by
  unfold f_X12_reads_131 g_X12_reads_131
  exact (Lf_if (c_isB hs0) (Lf_some hs0 hS) rfl)
def g_X12_reads_126 (S : MZ) : Option (Int × MZ) := (g_X12_reads_131 1 S)
theorem l_X12_reads_126 {S : Mem} {S' : MZ} (hS : tz S = S') : Lf tI (f_X12_reads_126 S) = g_X12_reads_126 S' := by
  unfold f_X12_reads_126 g_X12_reads_126
  exact (l_X12_reads_131 rfl hS)
def g_X12_reads_117 (v3 : Int) (S : MZ) : Option (Int × MZ) := ((g_X12_fails 1 v3 S).bind fun q120 => (if q120.1 = 0 then (g_X12_reads_131 0 q120.2) else (g_X12_reads_126 q120.2)))
theorem l_X12_reads_117 {v3 : Int32} {v3' : Int} (hv3 : tI v3 = v3') {S : Mem} {S' : MZ} (hS : tz S = S') : Lf tI (f_X12_reads_117 v3 S) = g_X12_reads_117 v3' S' := by
  unfold f_X12_reads_117 g_X12_reads_117
  exact (Lf_bind (l_X12_fails rfl hv3 hS) (fun q120 => (Lf_if (cI_eq rfl rfl) (l_X12_reads_131 rfl rfl) (l_X12_reads_126 rfl))))
def g_X12_reads_30B (k30 : Int → Int → Int → MZ → Option (Int × MZ)) (v1 : Int) (v2 : Int) (v3 : Int) (S : MZ) : Option (Int × MZ) := ((g_X12_byteAt (zI S 20 9) S).bind fun q35 => ((g_X12_isDigit q35.1 q35.2).bind fun q38 => (if q38.1 = 0 then (if 7 < (w32 ((zI q38.2 20 9) - v3)) then (g_X12_reads_117 v3 q38.2) else ((g_X12_isIn (zI q38.2 20 11) v1 v2 q38.2).bind fun q111 => (if q111.1 = 0 then (g_X12_reads_117 v3 q111.2) else (g_X12_reads_126 q111.2)))) else (if 7 ≤ (w32 ((zI q38.2 20 9) - v3)) then (g_X12_reads_78 k30 v1 v2 v3 q38.2) else ((g_X12_byteAt (zI q38.2 20 9) q38.2).bind fun q68 => (g_X12_reads_78 k30 v1 v2 v3 (uI q68.2 20 11 (w32 ((w32 ((w32 (10 * (zI q38.2 20 11))) + q68.1)) - 48)))))))))
theorem l_X12_reads_30B {k30 : Int32 → Int32 → Int32 → Mem → Option (Int32 × Mem)} {k30' : Int → Int → Int → MZ → Option (Int × MZ)} (hk30 : ∀ {x0 : Int32} {x1 : Int32} {x2 : Int32} {x3 : Mem} {y0 : Int} {y1 : Int} {y2 : Int} {y3 : MZ}, tI x0 = y0 → tI x1 = y1 → tI x2 = y2 → tz x3 = y3 → Lf tI (k30 x0 x1 x2 x3) = k30' y0 y1 y2 y3) {v1 : Int32} {v1' : Int} (hv1 : tI v1 = v1') {v2 : Int32} {v2' : Int} (hv2 : tI v2 = v2') {v3 : Int32} {v3' : Int} (hv3 : tI v3 = v3') {S : Mem} {S' : MZ} (hS : tz S = S') : Lf tI (f_X12_reads_30B k30 v1 v2 v3 S) = g_X12_reads_30B k30' v1' v2' v3' S' := by
  unfold f_X12_reads_30B g_X12_reads_30B
  exact (Lf_bind (l_X12_byteAt (pI_g hS rfl rfl) hS) (fun q35 => (Lf_bind (l_X12_isDigit rfl rfl) (fun q38 => (Lf_if (cI_eq rfl rfl) (Lf_if (cI_lt rfl (pI_sub (pI_g rfl rfl rfl) hv3)) (l_X12_reads_117 hv3 rfl) (Lf_bind (l_X12_isIn (pJ_of (pI_g rfl rfl rfl)) (pJ_of hv1) (pJ_of hv2) rfl) (fun q111 => (Lf_if (cI_eq rfl rfl) (l_X12_reads_117 hv3 rfl) (l_X12_reads_126 rfl))))) (Lf_if (cI_le rfl (pI_sub (pI_g rfl rfl rfl) hv3)) (l_X12_reads_78 hk30 hv1 hv2 hv3 rfl) (Lf_bind (l_X12_byteAt (pI_g rfl rfl rfl) rfl) (fun q68 => (l_X12_reads_78 hk30 hv1 hv2 hv3 (pM_I rfl rfl rfl (pI_sub (pI_add (pI_mul rfl (pI_g rfl rfl rfl)) rfl) rfl)))))))))))
def g_X12_reads_30 : Nat → Int → Int → Int → MZ → Option (Int × MZ)
  | 0 => fun _ _ _ _ => none
  | n + 1 => g_X12_reads_30B (g_X12_reads_30 n)
theorem l_X12_reads_30 : ∀ (n : Nat) {x0 : Int32} {x1 : Int32} {x2 : Int32} {x3 : Mem} {y0 : Int} {y1 : Int} {y2 : Int} {y3 : MZ}, tI x0 = y0 → tI x1 = y1 → tI x2 = y2 → tz x3 = y3 → Lf tI (f_X12_reads_30 n x0 x1 x2 x3) = g_X12_reads_30 n y0 y1 y2 y3
  | 0, _, _, _, _, _, _, _, _, _, _, _, _ => rfl
  | n + 1, _, _, _, _, _, _, _, _, e0, e1, e2, e3 => l_X12_reads_30B (fun de0 de1 de2 de3 => l_X12_reads_30 n de0 de1 de2 de3) e0 e1 e2 e3
def g_X12_reads_25 (v1 : Int) (v2 : Int) (v3 : Int) (S : MZ) : Option (Int × MZ) := (g_X12_reads_30 100000 v1 v2 v3 (uI S 20 11 0))
theorem l_X12_reads_25 {v1 : Int32} {v1' : Int} (hv1 : tI v1 = v1') {v2 : Int32} {v2' : Int} (hv2 : tI v2 = v2') {v3 : Int32} {v3' : Int} (hv3 : tI v3 = v3') {S : Mem} {S' : MZ} (hS : tz S = S') : Lf tI (f_X12_reads_25 v1 v2 v3 S) = g_X12_reads_25 v1' v2' v3' S' := by
  unfold f_X12_reads_25 g_X12_reads_25
  exact (l_X12_reads_30 100000 hv1 hv2 hv3 (pM_I hS rfl rfl rfl))
def g_X12_reads (p1 : Int) (p2 : Int) (S : MZ) : Option (Int × MZ) := ((g_X12_next S).bind fun q1 => ((g_X12_isDigit q1.1 q1.2).bind fun q4 => (if q4.1 = 0 then ((g_X12_fails 0 (zI q4.2 20 9) q4.2).bind fun q16 => (if (q16.1 = 0 ∨ q16.1 = 1) then (some (q16.1, q16.2)) else none)) else (g_X12_reads_25 p1 p2 (zI q4.2 20 9) q4.2))))
theorem l_X12_reads {p1 : Int32} {p1' : Int} (hp1 : tI p1 = p1') {p2 : Int32} {p2' : Int} (hp2 : tI p2 = p2') {S : Mem} {S' : MZ} (hS : tz S = S') : Lf tI (f_X12_reads p1 p2 S) = g_X12_reads p1' p2' S' := by
  unfold f_X12_reads g_X12_reads
  exact (Lf_bind (l_X12_next hS) (fun q1 => (Lf_bind (l_X12_isDigit rfl rfl) (fun q4 => (Lf_if (cI_eq rfl rfl) (Lf_bind (l_X12_fails rfl (pI_g rfl rfl rfl) rfl) (fun q16 => (Lf_if (c_isB rfl) (Lf_some rfl rfl) rfl))) (l_X12_reads_25 hp1 hp2 (pI_g rfl rfl rfl) rfl))))))
def g_X12_takesSign (p1 : Int) (S : MZ) : Option (Int × MZ) := ((g_X12_next S).bind fun q1 => (if q1.1 = p1 then (some (1, (uI q1.2 20 9 (w32 ((zI q1.2 20 9) + 1))))) else (some (0, q1.2))))
theorem l_X12_takesSign {p1 : Int32} {p1' : Int} (hp1 : tI p1 = p1') {S : Mem} {S' : MZ} (hS : tz S = S') : Lf tI (f_X12_takesSign p1 S) = g_X12_takesSign p1' S' := by
  unfold f_X12_takesSign g_X12_takesSign
  exact (Lf_bind (l_X12_next hS) (fun q1 => (Lf_if (cI_eq rfl hp1) (Lf_some rfl (pM_I rfl rfl rfl (pI_add (pI_g rfl rfl rfl) rfl))) (Lf_some rfl rfl))))
def g_X12_readsMarket_34 (v2 : Int) (S : MZ) : Option (Int × MZ) := ((g_X12_reads 1 4 S).bind fun q37 => (if q37.1 = 0 then (some (0, q37.2)) else (some (1, (uI (uI q37.2 20 24 v2) 20 25 (zI (uI q37.2 20 24 v2) 20 11))))))
theorem l_X12_readsMarket_34 {v2 : Int32} {v2' : Int} (hv2 : tI v2 = v2') {S : Mem} {S' : MZ} (hS : tz S = S') : Lf tI (f_X12_readsMarket_34 v2 S) = g_X12_readsMarket_34 v2' S' := by
  unfold f_X12_readsMarket_34 g_X12_readsMarket_34
  exact (Lf_bind (l_X12_reads rfl rfl hS) (fun q37 => (Lf_if (cI_eq rfl rfl) (Lf_some rfl rfl) (Lf_some rfl (pM_I (pM_I rfl rfl rfl hv2) rfl rfl (pI_g (pM_I rfl rfl rfl hv2) rfl rfl))))))
def g_X12_readsMarket (p1 : Int) (S : MZ) : Option (Int × MZ) := (if (zI S 20 24) ≤ 0 then ((g_X12_passWord S).bind fun q15 => ((g_X12_reads 2 5 q15.2).bind fun q21 => (if q21.1 = 0 then (some (0, q21.2)) else (g_X12_readsMarket_34 (zI q21.2 20 11) q21.2)))) else ((g_X12_fails 2 p1 S).bind fun q10 => (if (q10.1 = 0 ∨ q10.1 = 1) then (some (q10.1, q10.2)) else none)))
theorem l_X12_readsMarket {p1 : Int32} {p1' : Int} (hp1 : tI p1 = p1') {S : Mem} {S' : MZ} (hS : tz S = S') : Lf tI (f_X12_readsMarket p1 S) = g_X12_readsMarket p1' S' := by
  unfold f_X12_readsMarket g_X12_readsMarket
  exact (Lf_if (cI_le (pI_g hS rfl rfl) rfl) (Lf_bind (l_X12_passWord hS) (fun q15 => (Lf_bind (l_X12_reads rfl rfl rfl) (fun q21 => (Lf_if (cI_eq rfl rfl) (Lf_some rfl rfl) (l_X12_readsMarket_34 (pI_g rfl rfl rfl) rfl)))))) (Lf_bind (l_X12_fails rfl hp1 hS) (fun q10 => (Lf_if (c_isB rfl) (Lf_some rfl rfl) rfl))))
def g_X12_readsPool_142 (k21 : Int → MZ → Option (Int × MZ)) (v2 : Int) (S : MZ) : Option (Int × MZ) := (if (0 ≤ (w32 ((w32 (7 * (zI S 20 26))) + v2)) ∧ (w32 ((w32 (7 * (zI S 20 26))) + v2)) < ((35 : Nat) : Int)) then (k21 (w32 (v2 + 1)) (uI S 26 ((w32 ((w32 (7 * (zI S 20 26))) + v2))).toNat (zI S 20 11))) else none)
theorem l_X12_readsPool_142 {k21 : Int32 → Mem → Option (Int32 × Mem)} {k21' : Int → MZ → Option (Int × MZ)} (hk21 : ∀ {x0 : Int32} {x1 : Mem} {y0 : Int} {y1 : MZ}, tI x0 = y0 → tz x1 = y1 → Lf tI (k21 x0 x1) = k21' y0 y1) {v2 : Int32} {v2' : Int} (hv2 : tI v2 = v2') {S : Mem} {S' : MZ} (hS : tz S = S') : Lf tI (f_X12_readsPool_142 k21 v2 S) = g_X12_readsPool_142 k21' v2' S' := by
  unfold f_X12_readsPool_142 g_X12_readsPool_142
  exact (Lf_if (c_inb (pI_add (pI_mul rfl (pI_g hS rfl rfl)) hv2) rfl) (hk21 (pI_add hv2 rfl) (pM_I hS rfl (pN_of (pI_add (pI_mul rfl (pI_g hS rfl rfl)) hv2)) (pI_g hS rfl rfl))) rfl)
def g_X12_readsPool_98 (k21 : Int → MZ → Option (Int × MZ)) (v2 : Int) (v3 : Int) (v4 : Int) (v5 : Int) (S : MZ) : Option (Int × MZ) := ((g_X12_reads v3 v4 S).bind fun q102 => (if q102.1 = 0 then (some (0, q102.2)) else (if v2 = 1 then (if (0 ≤ (w32 (7 * (zI q102.2 20 26))) ∧ (w32 (7 * (zI q102.2 20 26))) < ((35 : Nat) : Int)) then (if (zI q102.2 20 11) = (zI q102.2 26 ((w32 (7 * (zI q102.2 20 26)))).toNat) then ((g_X12_fails 1 v5 q102.2).bind fun q138 => (if (q138.1 = 0 ∨ q138.1 = 1) then (some (q138.1, q138.2)) else none)) else (g_X12_readsPool_142 k21 v2 q102.2)) else none) else (g_X12_readsPool_142 k21 v2 q102.2))))
theorem l_X12_readsPool_98 {k21 : Int32 → Mem → Option (Int32 × Mem)} {k21' : Int → MZ → Option (Int × MZ)} (hk21 : ∀ {x0 : Int32} {x1 : Mem} {y0 : Int} {y1 : MZ}, tI x0 = y0 → tz x1 = y1 → Lf tI (k21 x0 x1) = k21' y0 y1) {v2 : Int32} {v2' : Int} (hv2 : tI v2 = v2') {v3 : Int32} {v3' : Int} (hv3 : tI v3 = v3') {v4 : Int32} {v4' : Int} (hv4 : tI v4 = v4') {v5 : Int32} {v5' : Int} (hv5 : tI v5 = v5') {S : Mem} {S' : MZ} (hS : tz S = S') : Lf tI (f_X12_readsPool_98 k21 v2 v3 v4 v5 S) = g_X12_readsPool_98 k21' v2' v3' v4' v5' S' := by
  unfold f_X12_readsPool_98 g_X12_readsPool_98
  exact (Lf_bind (l_X12_reads hv3 hv4 hS) (fun q102 => (Lf_if (cI_eq rfl rfl) (Lf_some rfl rfl) (Lf_if (cI_eq hv2 rfl) (Lf_if (c_inb (pI_mul rfl (pI_g rfl rfl rfl)) rfl) (Lf_if (cI_eq (pI_g rfl rfl rfl) (pI_g rfl rfl (pN_of (pI_mul rfl (pI_g rfl rfl rfl))))) (Lf_bind (l_X12_fails rfl hv5 rfl) (fun q138 => (Lf_if (c_isB rfl) (Lf_some rfl rfl) rfl))) (l_X12_readsPool_142 hk21 hv2 rfl)) rfl) (l_X12_readsPool_142 hk21 hv2 rfl)))))
def g_X12_readsPool_85 (k21 : Int → MZ → Option (Int × MZ)) (v2 : Int) (v3 : Int) (s0 : Int) (S : MZ) : Option (Int × MZ) := ((g_X12_next S).bind fun q88 => (g_X12_readsPool_98 k21 v2 v3 s0 (zI q88.2 20 9) q88.2))
theorem l_X12_readsPool_85 {k21 : Int32 → Mem → Option (Int32 × Mem)} {k21' : Int → MZ → Option (Int × MZ)} (hk21 : ∀ {x0 : Int32} {x1 : Mem} {y0 : Int} {y1 : MZ}, tI x0 = y0 → tz x1 = y1 → Lf tI (k21 x0 x1) = k21' y0 y1) {v2 : Int32} {v2' : Int} (hv2 : tI v2 = v2') {v3 : Int32} {v3' : Int} (hv3 : tI v3 = v3') {s0 : Int32} {s0' : Int} (hs0 : tI s0 = s0') {S : Mem} {S' : MZ} (hS : tz S = S') : Lf tI (f_X12_readsPool_85 k21 v2 v3 s0 S) = g_X12_readsPool_85 k21' v2' v3' s0' S' := by
  unfold f_X12_readsPool_85 g_X12_readsPool_85
  exact (Lf_bind (l_X12_next hS) (fun q88 => (l_X12_readsPool_98 hk21 hv2 hv3 hs0 (pI_g rfl rfl rfl) rfl)))
def g_X12_readsPool_37 (k21 : Int → MZ → Option (Int × MZ)) (v2 : Int) (s0 : Int) (S : MZ) : Option (Int × MZ) := (if 2 ≤ v2 then (if v2 = 2 then (g_X12_readsPool_85 k21 v2 s0 99 S) else (if v2 = 3 then (g_X12_readsPool_85 k21 v2 s0 100 S) else (if v2 = 4 then (g_X12_readsPool_85 k21 v2 s0 10 S) else (g_X12_readsPool_85 k21 v2 s0 9999 S)))) else (g_X12_readsPool_85 k21 v2 s0 (w32 ((zI S 20 24) - 1)) S))
theorem l_X12_readsPool_37 {k21 : Int32 → Mem → Option (Int32 × Mem)} {k21' : Int → MZ → Option (Int × MZ)} (hk21 : ∀ {x0 : Int32} {x1 : Mem} {y0 : Int} {y1 : MZ}, tI x0 = y0 → tz x1 = y1 → Lf tI (k21 x0 x1) = k21' y0 y1) {v2 : Int32} {v2' : Int} (hv2 : tI v2 = v2') {s0 : Int32} {s0' : Int} (hs0 : tI s0 = s0') {S : Mem} {S' : MZ} (hS : tz S = S') : Lf tI (f_X12_readsPool_37 k21 v2 s0 S) = g_X12_readsPool_37 k21' v2' s0' S' := by
  unfold f_X12_readsPool_37 g_X12_readsPool_37
  exact (Lf_if (cI_le rfl hv2) (Lf_if (cI_eq hv2 rfl) (l_X12_readsPool_85 hk21 hv2 hs0 rfl hS) (Lf_if (cI_eq hv2 rfl) (l_X12_readsPool_85 hk21 hv2 hs0 rfl hS) (Lf_if (cI_eq hv2 rfl) (l_X12_readsPool_85 hk21 hv2 hs0 rfl hS) (l_X12_readsPool_85 hk21 hv2 hs0 rfl hS)))) (l_X12_readsPool_85 hk21 hv2 hs0 (pI_sub (pI_g hS rfl rfl) rfl) hS))
def g_X12_readsPool_21B (k21 : Int → MZ → Option (Int × MZ)) (v2 : Int) (S : MZ) : Option (Int × MZ) := (if 7 ≤ v2 then (some (1, (uI S 20 26 (w32 ((zI S 20 26) + 1))))) else (if v2 < 4 then (g_X12_readsPool_37 k21 v2 0 S) else (g_X12_readsPool_37 k21 v2 1 S)))
theorem l_X12_readsPool_21B {k21 : Int32 → Mem → Option (Int32 × Mem)} {k21' : Int → MZ → Option (Int × MZ)} (hk21 : ∀ {x0 : Int32} {x1 : Mem} {y0 : Int} {y1 : MZ}, tI x0 = y0 → tz x1 = y1 → Lf tI (k21 x0 x1) = k21' y0 y1) {v2 : Int32} {v2' : Int} (hv2 : tI v2 = v2') {S : Mem} {S' : MZ} (hS : tz S = S') : Lf tI (f_X12_readsPool_21B k21 v2 S) = g_X12_readsPool_21B k21' v2' S' := by
  unfold f_X12_readsPool_21B g_X12_readsPool_21B
  exact (Lf_if (cI_le rfl hv2) (Lf_some rfl (pM_I hS rfl rfl (pI_add (pI_g hS rfl rfl) rfl))) (Lf_if (cI_lt hv2 rfl) (l_X12_readsPool_37 hk21 hv2 rfl hS) (l_X12_readsPool_37 hk21 hv2 rfl hS)))
def g_X12_readsPool_21 : Nat → Int → MZ → Option (Int × MZ)
  | 0 => fun _ _ => none
  | n + 1 => g_X12_readsPool_21B (g_X12_readsPool_21 n)
theorem l_X12_readsPool_21 : ∀ (n : Nat) {x0 : Int32} {x1 : Mem} {y0 : Int} {y1 : MZ}, tI x0 = y0 → tz x1 = y1 → Lf tI (f_X12_readsPool_21 n x0 x1) = g_X12_readsPool_21 n y0 y1
  | 0, _, _, _, _, _, _ => rfl
  | n + 1, _, _, _, _, e0, e1 => l_X12_readsPool_21B (fun de0 de1 => l_X12_readsPool_21 n de0 de1) e0 e1
def g_X12_readsPool (p1 : Int) (S : MZ) : Option (Int × MZ) := (if (zI S 20 26) = 5 then ((g_X12_fails 2 p1 S).bind fun q11 => (if (q11.1 = 0 ∨ q11.1 = 1) then (some (q11.1, q11.2)) else none)) else ((g_X12_passWord S).bind fun q16 => (g_X12_readsPool_21 100000 0 q16.2)))
theorem l_X12_readsPool {p1 : Int32} {p1' : Int} (hp1 : tI p1 = p1') {S : Mem} {S' : MZ} (hS : tz S = S') : Lf tI (f_X12_readsPool p1 S) = g_X12_readsPool p1' S' := by
  unfold f_X12_readsPool g_X12_readsPool
  exact (Lf_if (cI_eq (pI_g hS rfl rfl) rfl) (Lf_bind (l_X12_fails rfl hp1 hS) (fun q11 => (Lf_if (c_isB rfl) (Lf_some rfl rfl) rfl))) (Lf_bind (l_X12_passWord hS) (fun q16 => (l_X12_readsPool_21 100000 rfl rfl))))
def g_X12_readsPurse_46 (v1 : Int) (v2 : Int) (S : MZ) : Option (Int × MZ) := ((g_X12_reads 0 9999999 S).bind fun q50 => (if q50.1 = 0 then (some (0, q50.2)) else (if (0 ≤ (w32 ((w32 (5 * v1)) + v2)) ∧ (w32 ((w32 (5 * v1)) + v2)) < ((20 : Nat) : Int)) then (some (1, (uI q50.2 27 ((w32 ((w32 (5 * v1)) + v2))).toNat (zI q50.2 20 11)))) else none)))
theorem l_X12_readsPurse_46 {v1 : Int32} {v1' : Int} (hv1 : tI v1 = v1') {v2 : Int32} {v2' : Int} (hv2 : tI v2 = v2') {S : Mem} {S' : MZ} (hS : tz S = S') : Lf tI (f_X12_readsPurse_46 v1 v2 S) = g_X12_readsPurse_46 v1' v2' S' := by
  unfold f_X12_readsPurse_46 g_X12_readsPurse_46
  exact (Lf_bind (l_X12_reads rfl rfl hS) (fun q50 => (Lf_if (cI_eq rfl rfl) (Lf_some rfl rfl) (Lf_if (c_inb (pI_add (pI_mul rfl hv1) hv2) rfl) (Lf_some rfl (pM_I rfl rfl (pN_of (pI_add (pI_mul rfl hv1) hv2)) (pI_g rfl rfl rfl))) rfl))))
def g_X12_readsPurse_25 (v1 : Int) (S : MZ) : Option (Int × MZ) := ((g_X12_reads 0 (w32 ((zI S 20 24) - 1)) S).bind fun q33 => (if q33.1 = 0 then (some (0, q33.2)) else (g_X12_readsPurse_46 v1 (zI q33.2 20 11) q33.2)))
theorem l_X12_readsPurse_25 {v1 : Int32} {v1' : Int} (hv1 : tI v1 = v1') {S : Mem} {S' : MZ} (hS : tz S = S') : Lf tI (f_X12_readsPurse_25 v1 S) = g_X12_readsPurse_25 v1' S' := by
  unfold f_X12_readsPurse_25 g_X12_readsPurse_25
  exact (Lf_bind (l_X12_reads rfl (pI_sub (pI_g hS rfl rfl) rfl) hS) (fun q33 => (Lf_if (cI_eq rfl rfl) (Lf_some rfl rfl) (l_X12_readsPurse_46 hv1 (pI_g rfl rfl rfl) rfl))))
def g_X12_readsPurse (S : MZ) : Option (Int × MZ) := ((g_X12_passWord S).bind fun q1 => ((g_X12_reads 0 (w32 ((zI q1.2 20 25) - 1)) q1.2).bind fun q12 => (if q12.1 = 0 then (some (0, q12.2)) else (g_X12_readsPurse_25 (zI q12.2 20 11) q12.2))))
theorem l_X12_readsPurse {S : Mem} {S' : MZ} (hS : tz S = S') : Lf tI (f_X12_readsPurse S) = g_X12_readsPurse S' := by
  unfold f_X12_readsPurse g_X12_readsPurse
  exact (Lf_bind (l_X12_passWord hS) (fun q1 => (Lf_bind (l_X12_reads rfl (pI_sub (pI_g rfl rfl rfl) rfl) rfl) (fun q12 => (Lf_if (cI_eq rfl rfl) (Lf_some rfl rfl) (l_X12_readsPurse_25 (pI_g rfl rfl rfl) rfl))))))
def g_X12_readsClause_113 (s0 : Int) (S : MZ) : Option (Int × MZ) := (if (s0 = 0 ∨ s0 = 1) then (some (s0, S)) else none)
theorem l_X12_readsClause_113 {s0 : Int32} {s0' : Int} (hs0 : tI s0 = s0') {S : Mem} {S' : MZ} (hS : tz S = S') : Lf tI (f_X12_readsClause_113 s0 S) = g_X12_readsClause_113 s0' S' := by
  unfold f_X12_readsClause_113 g_X12_readsClause_113
  exact (Lf_if (c_isB hs0) (Lf_some hs0 hS) rfl)
def g_X12_readsClause_46 (v1 : Int) (v2 : Int) (v4 : Int) (S : MZ) : Option (Int × MZ) := (if v1 = 30 then ((g_X12_fails 2 v4 S).bind fun q56 => (if (q56.1 = 0 ∨ q56.1 = 1) then (some (q56.1, q56.2)) else none)) else (if v2 = (zL S 20 12) then ((g_X12_readsMarket v4 S).bind fun q72 => (if (q72.1 = 0 ∨ q72.1 = 1) then (some (q72.1, q72.2)) else none)) else (if (zI S 20 24) = 0 then ((g_X12_fails 2 v4 S).bind fun q87 => (if (q87.1 = 0 ∨ q87.1 = 1) then (some (q87.1, q87.2)) else none)) else (if v2 = (zL S 20 13) then ((g_X12_readsPool v4 S).bind fun q103 => (g_X12_readsClause_113 q103.1 q103.2)) else ((g_X12_readsPurse S).bind fun q110 => (g_X12_readsClause_113 q110.1 q110.2))))))
theorem l_X12_readsClause_46 {v1 : Int32} {v1' : Int} (hv1 : tI v1 = v1') {v2 : Int64} {v2' : Int} (hv2 : tJ v2 = v2') {v4 : Int32} {v4' : Int} (hv4 : tI v4 = v4') {S : Mem} {S' : MZ} (hS : tz S = S') : Lf tI (f_X12_readsClause_46 v1 v2 v4 S) = g_X12_readsClause_46 v1' v2' v4' S' := by
  unfold f_X12_readsClause_46 g_X12_readsClause_46
  exact (Lf_if (cI_eq hv1 rfl) (Lf_bind (l_X12_fails rfl hv4 hS) (fun q56 => (Lf_if (c_isB rfl) (Lf_some rfl rfl) rfl))) (Lf_if (cJ_eq hv2 (pJ_g hS rfl rfl)) (Lf_bind (l_X12_readsMarket hv4 hS) (fun q72 => (Lf_if (c_isB rfl) (Lf_some rfl rfl) rfl))) (Lf_if (cI_eq (pI_g hS rfl rfl) rfl) (Lf_bind (l_X12_fails rfl hv4 hS) (fun q87 => (Lf_if (c_isB rfl) (Lf_some rfl rfl) rfl))) (Lf_if (cJ_eq hv2 (pJ_g hS rfl rfl)) (Lf_bind (l_X12_readsPool hv4 hS) (fun q103 => (l_X12_readsClause_113 rfl rfl))) (Lf_bind (l_X12_readsPurse hS) (fun q110 => (l_X12_readsClause_113 rfl rfl)))))))
def g_X12_readsClause_11 (v1 : Int) (v2 : Int) (v4 : Int) (S : MZ) : Option (Int × MZ) := (if v2 = (zL S 20 12) then (g_X12_readsClause_46 v1 v2 v4 S) else (if v2 = (zL S 20 13) then (g_X12_readsClause_46 v1 v2 v4 S) else (if v2 = (zL S 20 14) then (g_X12_readsClause_46 v1 v2 v4 S) else ((g_X12_fails 0 v4 S).bind fun q42 => (if (q42.1 = 0 ∨ q42.1 = 1) then (some (q42.1, q42.2)) else none)))))
theorem l_X12_readsClause_11 {v1 : Int32} {v1' : Int} (hv1 : tI v1 = v1') {v2 : Int64} {v2' : Int} (hv2 : tJ v2 = v2') {v4 : Int32} {v4' : Int} (hv4 : tI v4 = v4') {S : Mem} {S' : MZ} (hS : tz S = S') : Lf tI (f_X12_readsClause_11 v1 v2 v4 S) = g_X12_readsClause_11 v1' v2' v4' S' := by
  unfold f_X12_readsClause_11 g_X12_readsClause_11
  exact (Lf_if (cJ_eq hv2 (pJ_g hS rfl rfl)) (l_X12_readsClause_46 hv1 hv2 hv4 hS) (Lf_if (cJ_eq hv2 (pJ_g hS rfl rfl)) (l_X12_readsClause_46 hv1 hv2 hv4 hS) (Lf_if (cJ_eq hv2 (pJ_g hS rfl rfl)) (l_X12_readsClause_46 hv1 hv2 hv4 hS) (Lf_bind (l_X12_fails rfl hv4 hS) (fun q42 => (Lf_if (c_isB rfl) (Lf_some rfl rfl) rfl))))))
def g_X12_readsClause (p1 : Int) (S : MZ) : Option (Int × MZ) := ((g_X12_wordHere S).bind fun q1 => (g_X12_readsClause_11 p1 q1.1 (zI q1.2 20 9) q1.2))
theorem l_X12_readsClause {p1 : Int32} {p1' : Int} (hp1 : tI p1 = p1') {S : Mem} {S' : MZ} (hS : tz S = S') : Lf tI (f_X12_readsClause p1 S) = g_X12_readsClause p1' S' := by
  unfold f_X12_readsClause g_X12_readsClause
  exact (Lf_bind (l_X12_wordHere hS) (fun q1 => (l_X12_readsClause_11 hp1 rfl (pI_g rfl rfl rfl) rfl)))
def g_X12_readsAll_85 (s0 : Int) (S : MZ) : Option (Int × MZ) := (if (s0 = 0 ∨ s0 = 1) then (some (s0, S)) else none)
theorem l_X12_readsAll_85 {s0 : Int32} {s0' : Int} (hs0 : tI s0 = s0') {S : Mem} {S' : MZ} (hS : tz S = S') : Lf tI (f_X12_readsAll_85 s0 S) = g_X12_readsAll_85 s0' S' := by
  unfold f_X12_readsAll_85 g_X12_readsAll_85
  exact (Lf_if (c_isB hs0) (Lf_some hs0 hS) rfl)
def g_X12_readsAll_80 (S : MZ) : Option (Int × MZ) := (g_X12_readsAll_85 1 S)
theorem l_X12_readsAll_80 {S : Mem} {S' : MZ} (hS : tz S = S') : Lf tI (f_X12_readsAll_80 S) = g_X12_readsAll_80 S' := by
  unfold f_X12_readsAll_80 g_X12_readsAll_80
  exact (l_X12_readsAll_85 rfl hS)
def g_X12_readsAll_51 (k38 : Int → MZ → Option (Int × MZ)) (v1 : Int) (S : MZ) : Option (Int × MZ) := ((g_X12_takesSign 59 S).bind fun q54 => (if q54.1 = 0 then ((g_X12_next q54.2).bind fun q61 => (if q61.1 = (-1) then (g_X12_readsAll_80 q61.2) else ((g_X12_fails 0 (zI q61.2 20 9) q61.2).bind fun q74 => (if q74.1 = 0 then (g_X12_readsAll_85 0 q74.2) else (g_X12_readsAll_80 q74.2))))) else (k38 v1 q54.2)))
theorem l_X12_readsAll_51 {k38 : Int32 → Mem → Option (Int32 × Mem)} {k38' : Int → MZ → Option (Int × MZ)} (hk38 : ∀ {x0 : Int32} {x1 : Mem} {y0 : Int} {y1 : MZ}, tI x0 = y0 → tz x1 = y1 → Lf tI (k38 x0 x1) = k38' y0 y1) {v1 : Int32} {v1' : Int} (hv1 : tI v1 = v1') {S : Mem} {S' : MZ} (hS : tz S = S') : Lf tI (f_X12_readsAll_51 k38 v1 S) = g_X12_readsAll_51 k38' v1' S' := by
  unfold f_X12_readsAll_51 g_X12_readsAll_51
  exact (Lf_bind (l_X12_takesSign rfl hS) (fun q54 => (Lf_if (cI_eq rfl rfl) (Lf_bind (l_X12_next rfl) (fun q61 => (Lf_if (cI_eq rfl rfl) (l_X12_readsAll_80 rfl) (Lf_bind (l_X12_fails rfl (pI_g rfl rfl rfl) rfl) (fun q74 => (Lf_if (cI_eq rfl rfl) (l_X12_readsAll_85 rfl rfl) (l_X12_readsAll_80 rfl))))))) (hk38 hv1 rfl))))
def g_X12_readsAll_38B (k38 : Int → MZ → Option (Int × MZ)) (v1 : Int) (S : MZ) : Option (Int × MZ) := ((g_X12_readsClause v1 S).bind fun q40 => (if q40.1 = 0 then (some (0, q40.2)) else (g_X12_readsAll_51 k38 (w32 (v1 + 1)) q40.2)))
theorem l_X12_readsAll_38B {k38 : Int32 → Mem → Option (Int32 × Mem)} {k38' : Int → MZ → Option (Int × MZ)} (hk38 : ∀ {x0 : Int32} {x1 : Mem} {y0 : Int} {y1 : MZ}, tI x0 = y0 → tz x1 = y1 → Lf tI (k38 x0 x1) = k38' y0 y1) {v1 : Int32} {v1' : Int} (hv1 : tI v1 = v1') {S : Mem} {S' : MZ} (hS : tz S = S') : Lf tI (f_X12_readsAll_38B k38 v1 S) = g_X12_readsAll_38B k38' v1' S' := by
  unfold f_X12_readsAll_38B g_X12_readsAll_38B
  exact (Lf_bind (l_X12_readsClause hv1 hS) (fun q40 => (Lf_if (cI_eq rfl rfl) (Lf_some rfl rfl) (l_X12_readsAll_51 hk38 (pI_add hv1 rfl) rfl))))
def g_X12_readsAll_38 : Nat → Int → MZ → Option (Int × MZ)
  | 0 => fun _ _ => none
  | n + 1 => g_X12_readsAll_38B (g_X12_readsAll_38 n)
theorem l_X12_readsAll_38 : ∀ (n : Nat) {x0 : Int32} {x1 : Mem} {y0 : Int} {y1 : MZ}, tI x0 = y0 → tz x1 = y1 → Lf tI (f_X12_readsAll_38 n x0 x1) = g_X12_readsAll_38 n y0 y1
  | 0, _, _, _, _, _, _ => rfl
  | n + 1, _, _, _, _, e0, e1 => l_X12_readsAll_38B (fun de0 de1 => l_X12_readsAll_38 n de0 de1) e0 e1
def g_X12_readsAll_12B (k12 : Int → MZ → Option (Int × MZ)) (v1 : Int) (S : MZ) : Option (Int × MZ) := (if 20 ≤ v1 then (g_X12_readsAll_38 100000 0 (uI S 20 9 0)) else (if (0 ≤ v1 ∧ v1 < ((20 : Nat) : Int)) then (k12 (w32 (v1 + 1)) (uI S 27 (v1).toNat 0)) else none))
theorem l_X12_readsAll_12B {k12 : Int32 → Mem → Option (Int32 × Mem)} {k12' : Int → MZ → Option (Int × MZ)} (hk12 : ∀ {x0 : Int32} {x1 : Mem} {y0 : Int} {y1 : MZ}, tI x0 = y0 → tz x1 = y1 → Lf tI (k12 x0 x1) = k12' y0 y1) {v1 : Int32} {v1' : Int} (hv1 : tI v1 = v1') {S : Mem} {S' : MZ} (hS : tz S = S') : Lf tI (f_X12_readsAll_12B k12 v1 S) = g_X12_readsAll_12B k12' v1' S' := by
  unfold f_X12_readsAll_12B g_X12_readsAll_12B
  exact (Lf_if (cI_le rfl hv1) (l_X12_readsAll_38 100000 rfl (pM_I hS rfl rfl rfl)) (Lf_if (c_inb hv1 rfl) (hk12 (pI_add hv1 rfl) (pM_I hS rfl (pN_of hv1) rfl)) rfl))
def g_X12_readsAll_12 : Nat → Int → MZ → Option (Int × MZ)
  | 0 => fun _ _ => none
  | n + 1 => g_X12_readsAll_12B (g_X12_readsAll_12 n)
theorem l_X12_readsAll_12 : ∀ (n : Nat) {x0 : Int32} {x1 : Mem} {y0 : Int} {y1 : MZ}, tI x0 = y0 → tz x1 = y1 → Lf tI (f_X12_readsAll_12 n x0 x1) = g_X12_readsAll_12 n y0 y1
  | 0, _, _, _, _, _, _ => rfl
  | n + 1, _, _, _, _, e0, e1 => l_X12_readsAll_12B (fun de0 de1 => l_X12_readsAll_12 n de0 de1) e0 e1
def g_X12_readsAll (S : MZ) : Option (Int × MZ) := (g_X12_readsAll_12 100000 0 (uI (uI S 20 24 0) 20 26 0))
theorem l_X12_readsAll {S : Mem} {S' : MZ} (hS : tz S = S') : Lf tI (f_X12_readsAll S) = g_X12_readsAll S' := by
  unfold f_X12_readsAll g_X12_readsAll
  exact (l_X12_readsAll_12 100000 rfl (pM_I (pM_I hS rfl rfl rfl) rfl rfl rfl))
def g_X12_begins_191 (k77 : Int → MZ → Option (Unit × MZ)) (v1 : Int) (v2 : Int) (S : MZ) : Option (Unit × MZ) := ((g_X12_setPool v1 0 v2 S).bind fun q195 => ((g_X12_zoneOf v2 q195.2).bind fun q203 => ((g_X12_setPool v1 1 q203.1 q203.2).bind fun q207 => ((g_X12_setPool v1 6 1 q207.2).bind fun q215 => (k77 (w32 (v1 + 1)) q215.2)))))
theorem l_X12_begins_191 {k77 : Int32 → Mem → Option (Unit × Mem)} {k77' : Int → MZ → Option (Unit × MZ)} (hk77 : ∀ {x0 : Int32} {x1 : Mem} {y0 : Int} {y1 : MZ}, tI x0 = y0 → tz x1 = y1 → Lf tU (k77 x0 x1) = k77' y0 y1) {v1 : Int32} {v1' : Int} (hv1 : tI v1 = v1') {v2 : Int64} {v2' : Int} (hv2 : tJ v2 = v2') {S : Mem} {S' : MZ} (hS : tz S = S') : Lf tU (f_X12_begins_191 k77 v1 v2 S) = g_X12_begins_191 k77' v1' v2' S' := by
  unfold f_X12_begins_191 g_X12_begins_191
  exact (Lf_bind (l_X12_setPool hv1 rfl hv2 hS) (fun q195 => (Lf_bind (l_X12_zoneOf hv2 rfl) (fun q203 => (Lf_bind (l_X12_setPool hv1 rfl (pJ_of rfl) rfl) (fun q207 => (Lf_bind (l_X12_setPool hv1 rfl rfl rfl) (fun q215 => (hk77 (pI_add hv1 rfl) rfl)))))))))
def g_X12_begins_171 (k77 : Int → MZ → Option (Unit × MZ)) (v1 : Int) (v2 : Int) (S : MZ) : Option (Unit × MZ) := (if v2 ≤ (zL S 21 40) then (g_X12_begins_191 k77 v1 v2 S) else (g_X12_begins_191 k77 v1 (zL S 21 40) S))
theorem l_X12_begins_171 {k77 : Int32 → Mem → Option (Unit × Mem)} {k77' : Int → MZ → Option (Unit × MZ)} (hk77 : ∀ {x0 : Int32} {x1 : Mem} {y0 : Int} {y1 : MZ}, tI x0 = y0 → tz x1 = y1 → Lf tU (k77 x0 x1) = k77' y0 y1) {v1 : Int32} {v1' : Int} (hv1 : tI v1 = v1') {v2 : Int64} {v2' : Int} (hv2 : tJ v2 = v2') {S : Mem} {S' : MZ} (hS : tz S = S') : Lf tU (f_X12_begins_171 k77 v1 v2 S) = g_X12_begins_171 k77' v1' v2' S' := by
  unfold f_X12_begins_171 g_X12_begins_171
  exact (Lf_if (cJ_le hv2 (pJ_g hS rfl (pN_of (a' := 40) rfl))) (l_X12_begins_191 hk77 hv1 hv2 hS) (l_X12_begins_191 hk77 hv1 (pJ_g hS rfl (pN_of (a' := 40) rfl)) hS))
def g_X12_begins_87B (k77 : Int → MZ → Option (Unit × MZ)) (k87 : Int → Int → MZ → Option (Unit × MZ)) (v1 : Int) (v2 : Int) (S : MZ) : Option (Unit × MZ) := (if 5 ≤ v2 then (if (0 ≤ (w32 ((w32 (7 * v1)) + 5)) ∧ (w32 ((w32 (7 * v1)) + 5)) < ((35 : Nat) : Int)) then (if (0 ≤ (w32 ((w32 (7 * v1)) + 6)) ∧ (w32 ((w32 (7 * v1)) + 6)) < ((35 : Nat) : Int)) then (if (zI S 26 ((w32 ((w32 (7 * v1)) + 6))).toNat) = 0 then none else ((g_X12_rootOfNumber (w64 (Int.tdiv (w64 (10000000000 * (zI S 26 ((w32 ((w32 (7 * v1)) + 5))).toNat))) (zI S 26 ((w32 ((w32 (7 * v1)) + 6))).toNat))) S).bind fun q149 => (if (zL q149.2 21 0) ≤ q149.1 then (g_X12_begins_171 k77 v1 q149.1 q149.2) else (g_X12_begins_171 k77 v1 (zL q149.2 21 0) q149.2)))) else none) else none) else (if (0 ≤ (w32 ((w32 (7 * v1)) + v2)) ∧ (w32 ((w32 (7 * v1)) + v2)) < ((35 : Nat) : Int)) then (if (0 ≤ (w32 ((w32 (5 * v1)) + v2)) ∧ (w32 ((w32 (5 * v1)) + v2)) < ((25 : Nat) : Int)) then (k87 v1 (w32 (v2 + 1)) (uI S 22 ((w32 ((w32 (5 * v1)) + v2))).toNat (zI S 26 ((w32 ((w32 (7 * v1)) + v2))).toNat))) else none) else none))
theorem l_X12_begins_87B {k77 : Int32 → Mem → Option (Unit × Mem)} {k77' : Int → MZ → Option (Unit × MZ)} (hk77 : ∀ {x0 : Int32} {x1 : Mem} {y0 : Int} {y1 : MZ}, tI x0 = y0 → tz x1 = y1 → Lf tU (k77 x0 x1) = k77' y0 y1) {k87 : Int32 → Int32 → Mem → Option (Unit × Mem)} {k87' : Int → Int → MZ → Option (Unit × MZ)} (hk87 : ∀ {x0 : Int32} {x1 : Int32} {x2 : Mem} {y0 : Int} {y1 : Int} {y2 : MZ}, tI x0 = y0 → tI x1 = y1 → tz x2 = y2 → Lf tU (k87 x0 x1 x2) = k87' y0 y1 y2) {v1 : Int32} {v1' : Int} (hv1 : tI v1 = v1') {v2 : Int32} {v2' : Int} (hv2 : tI v2 = v2') {S : Mem} {S' : MZ} (hS : tz S = S') : Lf tU (f_X12_begins_87B k77 k87 v1 v2 S) = g_X12_begins_87B k77' k87' v1' v2' S' := by
  unfold f_X12_begins_87B g_X12_begins_87B
  exact (Lf_if (cI_le rfl hv2) (Lf_if (c_inb (pI_add (pI_mul rfl hv1) rfl) rfl) (Lf_if (c_inb (pI_add (pI_mul rfl hv1) rfl) rfl) (Lf_if (cJ_eq (pJ_of (pI_g hS rfl (pN_of (pI_add (pI_mul rfl hv1) rfl)))) rfl) rfl (Lf_bind (l_X12_rootOfNumber (pJ_div (pJ_mul rfl (pJ_of (pI_g hS rfl (pN_of (pI_add (pI_mul rfl hv1) rfl))))) (pJ_of (pI_g hS rfl (pN_of (pI_add (pI_mul rfl hv1) rfl))))) hS) (fun q149 => (Lf_if (cJ_le (pJ_g rfl rfl (pN_of (a' := 0) rfl)) rfl) (l_X12_begins_171 hk77 hv1 rfl rfl) (l_X12_begins_171 hk77 hv1 (pJ_g rfl rfl (pN_of (a' := 0) rfl)) rfl))))) rfl) rfl) (Lf_if (c_inb (pI_add (pI_mul rfl hv1) hv2) rfl) (Lf_if (c_inb (pI_add (pI_mul rfl hv1) hv2) rfl) (hk87 hv1 (pI_add hv2 rfl) (pM_I hS rfl (pN_of (pI_add (pI_mul rfl hv1) hv2)) (pI_g hS rfl (pN_of (pI_add (pI_mul rfl hv1) hv2))))) rfl) rfl))
def g_X12_begins_87 (k77 : Int → MZ → Option (Unit × MZ)) : Nat → Int → Int → MZ → Option (Unit × MZ)
  | 0 => fun _ _ _ => none
  | n + 1 => g_X12_begins_87B k77 (g_X12_begins_87 k77 n)
theorem l_X12_begins_87 {k77 : Int32 → Mem → Option (Unit × Mem)} {k77' : Int → MZ → Option (Unit × MZ)} (hk77 : ∀ {x0 : Int32} {x1 : Mem} {y0 : Int} {y1 : MZ}, tI x0 = y0 → tz x1 = y1 → Lf tU (k77 x0 x1) = k77' y0 y1) : ∀ (n : Nat) {x0 : Int32} {x1 : Int32} {x2 : Mem} {y0 : Int} {y1 : Int} {y2 : MZ}, tI x0 = y0 → tI x1 = y1 → tz x2 = y2 → Lf tU (f_X12_begins_87 k77 n x0 x1 x2) = g_X12_begins_87 k77' n y0 y1 y2
  | 0, _, _, _, _, _, _, _, _, _ => rfl
  | n + 1, _, _, _, _, _, _, e0, e1, e2 => l_X12_begins_87B hk77 (fun de0 de1 de2 => l_X12_begins_87 hk77 n de0 de1 de2) e0 e1 e2
def g_X12_begins_77B (k77 : Int → MZ → Option (Unit × MZ)) (v1 : Int) (S : MZ) : Option (Unit × MZ) := (if (zI S 20 3) ≤ v1 then (some ((), S)) else (g_X12_begins_87 k77 100000 v1 0 S))
theorem l_X12_begins_77B {k77 : Int32 → Mem → Option (Unit × Mem)} {k77' : Int → MZ → Option (Unit × MZ)} (hk77 : ∀ {x0 : Int32} {x1 : Mem} {y0 : Int} {y1 : MZ}, tI x0 = y0 → tz x1 = y1 → Lf tU (k77 x0 x1) = k77' y0 y1) {v1 : Int32} {v1' : Int} (hv1 : tI v1 = v1') {S : Mem} {S' : MZ} (hS : tz S = S') : Lf tU (f_X12_begins_77B k77 v1 S) = g_X12_begins_77B k77' v1' S' := by
  unfold f_X12_begins_77B g_X12_begins_77B
  exact (Lf_if (cI_le (pI_g hS rfl rfl) hv1) (Lf_some rfl hS) (l_X12_begins_87 hk77 100000 hv1 rfl hS))
def g_X12_begins_77 : Nat → Int → MZ → Option (Unit × MZ)
  | 0 => fun _ _ => none
  | n + 1 => g_X12_begins_77B (g_X12_begins_77 n)
theorem l_X12_begins_77 : ∀ (n : Nat) {x0 : Int32} {x1 : Mem} {y0 : Int} {y1 : MZ}, tI x0 = y0 → tz x1 = y1 → Lf tU (f_X12_begins_77 n x0 x1) = g_X12_begins_77 n y0 y1
  | 0, _, _, _, _, _, _ => rfl
  | n + 1, _, _, _, _, e0, e1 => l_X12_begins_77B (fun de0 de1 => l_X12_begins_77 n de0 de1) e0 e1
def g_X12_begins_48B (k48 : Int → MZ → Option (Unit × MZ)) (v1 : Int) (S : MZ) : Option (Unit × MZ) := (if 20 ≤ v1 then (g_X12_begins_77 100000 0 S) else (if (0 ≤ v1 ∧ v1 < ((20 : Nat) : Int)) then (if (0 ≤ (w32 (2 + v1)) ∧ (w32 (2 + v1)) < ((258 : Nat) : Int)) then (k48 (w32 (v1 + 1)) (uL S 23 ((w32 (2 + v1))).toNat (zI S 27 (v1).toNat))) else none) else none))
theorem l_X12_begins_48B {k48 : Int32 → Mem → Option (Unit × Mem)} {k48' : Int → MZ → Option (Unit × MZ)} (hk48 : ∀ {x0 : Int32} {x1 : Mem} {y0 : Int} {y1 : MZ}, tI x0 = y0 → tz x1 = y1 → Lf tU (k48 x0 x1) = k48' y0 y1) {v1 : Int32} {v1' : Int} (hv1 : tI v1 = v1') {S : Mem} {S' : MZ} (hS : tz S = S') : Lf tU (f_X12_begins_48B k48 v1 S) = g_X12_begins_48B k48' v1' S' := by
  unfold f_X12_begins_48B g_X12_begins_48B
  exact (Lf_if (cI_le rfl hv1) (l_X12_begins_77 100000 rfl hS) (Lf_if (c_inb hv1 rfl) (Lf_if (c_inb (pI_add rfl hv1) rfl) (hk48 (pI_add hv1 rfl) (pM_L hS rfl (pN_of (pI_add rfl hv1)) (pJ_of (pI_g hS rfl (pN_of hv1))))) rfl) rfl))
def g_X12_begins_48 : Nat → Int → MZ → Option (Unit × MZ)
  | 0 => fun _ _ => none
  | n + 1 => g_X12_begins_48B (g_X12_begins_48 n)
theorem l_X12_begins_48 : ∀ (n : Nat) {x0 : Int32} {x1 : Mem} {y0 : Int} {y1 : MZ}, tI x0 = y0 → tz x1 = y1 → Lf tU (f_X12_begins_48 n x0 x1) = g_X12_begins_48 n y0 y1
  | 0, _, _, _, _, _, _ => rfl
  | n + 1, _, _, _, _, e0, e1 => l_X12_begins_48B (fun de0 de1 => l_X12_begins_48 n de0 de1) e0 e1
def g_X12_begins_26B (k26 : Int → MZ → Option (Unit × MZ)) (v1 : Int) (S : MZ) : Option (Unit × MZ) := (if 258 ≤ v1 then (g_X12_begins_48 100000 0 S) else (if (0 ≤ v1 ∧ v1 < ((258 : Nat) : Int)) then (k26 (w32 (v1 + 1)) (uL S 23 (v1).toNat 0)) else none))
theorem l_X12_begins_26B {k26 : Int32 → Mem → Option (Unit × Mem)} {k26' : Int → MZ → Option (Unit × MZ)} (hk26 : ∀ {x0 : Int32} {x1 : Mem} {y0 : Int} {y1 : MZ}, tI x0 = y0 → tz x1 = y1 → Lf tU (k26 x0 x1) = k26' y0 y1) {v1 : Int32} {v1' : Int} (hv1 : tI v1 = v1') {S : Mem} {S' : MZ} (hS : tz S = S') : Lf tU (f_X12_begins_26B k26 v1 S) = g_X12_begins_26B k26' v1' S' := by
  unfold f_X12_begins_26B g_X12_begins_26B
  exact (Lf_if (cI_le rfl hv1) (l_X12_begins_48 100000 rfl hS) (Lf_if (c_inb hv1 rfl) (hk26 (pI_add hv1 rfl) (pM_L hS rfl (pN_of hv1) rfl)) rfl))
def g_X12_begins_26 : Nat → Int → MZ → Option (Unit × MZ)
  | 0 => fun _ _ => none
  | n + 1 => g_X12_begins_26B (g_X12_begins_26 n)
theorem l_X12_begins_26 : ∀ (n : Nat) {x0 : Int32} {x1 : Mem} {y0 : Int} {y1 : MZ}, tI x0 = y0 → tz x1 = y1 → Lf tU (f_X12_begins_26 n x0 x1) = g_X12_begins_26 n y0 y1
  | 0, _, _, _, _, _, _ => rfl
  | n + 1, _, _, _, _, e0, e1 => l_X12_begins_26B (fun de0 de1 => l_X12_begins_26 n de0 de1) e0 e1
def g_X12_begins_24 (S : MZ) : Option (Unit × MZ) := (g_X12_begins_26 100000 0 S)
theorem l_X12_begins_24 {S : Mem} {S' : MZ} (hS : tz S = S') : Lf tU (f_X12_begins_24 S) = g_X12_begins_24 S' := by
  unfold f_X12_begins_24 g_X12_begins_24
  exact (l_X12_begins_26 100000 rfl hS)
def g_X12_begins (S : MZ) : Option (Unit × MZ) := (g_X12_begins_24 (uI (uI (uI S 20 1 (zI S 20 24)) 20 2 (zI (uI S 20 1 (zI S 20 24)) 20 25)) 20 3 (zI (uI (uI S 20 1 (zI S 20 24)) 20 2 (zI (uI S 20 1 (zI S 20 24)) 20 25)) 20 26)))
theorem l_X12_begins {S : Mem} {S' : MZ} (hS : tz S = S') : Lf tU (f_X12_begins S) = g_X12_begins S' := by
  unfold f_X12_begins g_X12_begins
  exact (l_X12_begins_24 (pM_I (pM_I (pM_I hS rfl rfl (pI_g hS rfl rfl)) rfl rfl (pI_g (pM_I hS rfl rfl (pI_g hS rfl rfl)) rfl rfl)) rfl rfl (pI_g (pM_I (pM_I hS rfl rfl (pI_g hS rfl rfl)) rfl rfl (pI_g (pM_I hS rfl rfl (pI_g hS rfl rfl)) rfl rfl)) rfl rfl)))
def g_X12_market (S : MZ) : Option (Int × MZ) := ((g_X12_readsAll S).bind fun q1 => (if q1.1 = 0 then (some ((w32 ((-2) - (zI (uI q1.2 20 8 0) 20 10))), (uI q1.2 20 8 0))) else ((g_X12_begins (uI q1.2 20 8 0)).bind fun q23 => (some ((zI q23.2 20 3), q23.2)))))
theorem l_X12_market {S : Mem} {S' : MZ} (hS : tz S = S') : Lf tI (f_X12_market S) = g_X12_market S' := by
  unfold f_X12_market g_X12_market
  exact (Lf_bind (l_X12_readsAll hS) (fun q1 => (Lf_if (cI_eq rfl rfl) (Lf_some (pI_sub rfl (pI_g (pM_I rfl rfl rfl rfl) rfl rfl)) (pM_I rfl rfl rfl rfl)) (Lf_bind (l_X12_begins (pM_I rfl rfl rfl rfl)) (fun q23 => (Lf_some (pI_g rfl rfl rfl) rfl))))))
def g_X12_first_36 (s0 : Int) (S : MZ) : Option (Int × MZ) := (some (s0, S))
theorem l_X12_first_36 {s0 : Int64} {s0' : Int} (hs0 : tJ s0 = s0') {S : Mem} {S' : MZ} (hS : tz S = S') : Lf tJ (f_X12_first_36 s0 S) = g_X12_first_36 s0' S' := by
  unfold f_X12_first_36 g_X12_first_36
  exact (Lf_some hs0 hS)
def g_X12_first_12 (v2 : Int) (v4 : Int) (v6 : Int) (v7 : Int) (S : MZ) : Option (Int × MZ) := (if v6 = 0 then (if (w64 (v2 * v4)) = 0 then none else (g_X12_first_36 (w64 (Int.tdiv v7 (w64 (v2 * v4)))) S)) else ((g_X12_up v7 (w64 (v2 * v4)) S).bind fun q23 => (g_X12_first_36 q23.1 q23.2)))
theorem l_X12_first_12 {v2 : Int64} {v2' : Int} (hv2 : tJ v2 = v2') {v4 : Int64} {v4' : Int} (hv4 : tJ v4 = v4') {v6 : Int32} {v6' : Int} (hv6 : tI v6 = v6') {v7 : Int64} {v7' : Int} (hv7 : tJ v7 = v7') {S : Mem} {S' : MZ} (hS : tz S = S') : Lf tJ (f_X12_first_12 v2 v4 v6 v7 S) = g_X12_first_12 v2' v4' v6' v7' S' := by
  unfold f_X12_first_12 g_X12_first_12
  exact (Lf_if (cI_eq hv6 rfl) (Lf_if (cJ_eq (pJ_mul hv2 hv4) rfl) rfl (l_X12_first_36 (pJ_div hv7 (pJ_mul hv2 hv4)) hS)) (Lf_bind (l_X12_up hv7 (pJ_mul hv2 hv4) hS) (fun q23 => (l_X12_first_36 rfl rfl))))
def g_X12_first (p0 : Int) (p2 : Int) (p4 : Int) (p6 : Int) (S : MZ) : Option (Int × MZ) := (g_X12_first_12 p2 p4 p6 (w64 ((w64 (p0 * 100000)) * (w64 (p4 - p2)))) S)
theorem l_X12_first {p0 : Int64} {p0' : Int} (hp0 : tJ p0 = p0') {p2 : Int64} {p2' : Int} (hp2 : tJ p2 = p2') {p4 : Int64} {p4' : Int} (hp4 : tJ p4 = p4') {p6 : Int32} {p6' : Int} (hp6 : tI p6 = p6') {S : Mem} {S' : MZ} (hS : tz S = S') : Lf tJ (f_X12_first p0 p2 p4 p6 S) = g_X12_first p0' p2' p4' p6' S' := by
  unfold f_X12_first g_X12_first
  exact (l_X12_first_12 hp2 hp4 hp6 (pJ_mul (pJ_mul hp0 rfl) (pJ_sub hp4 hp2)) hS)
def g_X12_second_30 (s0 : Int) (S : MZ) : Option (Int × MZ) := (some (s0, S))
theorem l_X12_second_30 {s0 : Int64} {s0' : Int} (hs0 : tJ s0 = s0') {S : Mem} {S' : MZ} (hS : tz S = S') : Lf tJ (f_X12_second_30 s0 S) = g_X12_second_30 s0' S' := by
  unfold f_X12_second_30 g_X12_second_30
  exact (Lf_some hs0 hS)
def g_X12_second_8 (v6 : Int) (v7 : Int) (S : MZ) : Option (Int × MZ) := (if v6 = 0 then (g_X12_second_30 (w64 (Int.tdiv v7 100000)) S) else ((g_X12_up v7 100000 S).bind fun q18 => (g_X12_second_30 q18.1 q18.2)))
theorem l_X12_second_8 {v6 : Int32} {v6' : Int} (hv6 : tI v6 = v6') {v7 : Int64} {v7' : Int} (hv7 : tJ v7 = v7') {S : Mem} {S' : MZ} (hS : tz S = S') : Lf tJ (f_X12_second_8 v6 v7 S) = g_X12_second_8 v6' v7' S' := by
  unfold f_X12_second_8 g_X12_second_8
  exact (Lf_if (cI_eq hv6 rfl) (l_X12_second_30 (pJ_div hv7 rfl) hS) (Lf_bind (l_X12_up hv7 rfl hS) (fun q18 => (l_X12_second_30 rfl rfl))))
def g_X12_second (p0 : Int) (p2 : Int) (p4 : Int) (p6 : Int) (S : MZ) : Option (Int × MZ) := (g_X12_second_8 p6 (w64 (p0 * (w64 (p4 - p2)))) S)
theorem l_X12_second {p0 : Int64} {p0' : Int} (hp0 : tJ p0 = p0') {p2 : Int64} {p2' : Int} (hp2 : tJ p2 = p2') {p4 : Int64} {p4' : Int} (hp4 : tJ p4 = p4') {p6 : Int32} {p6' : Int} (hp6 : tI p6 = p6') {S : Mem} {S' : MZ} (hS : tz S = S') : Lf tJ (f_X12_second p0 p2 p4 p6 S) = g_X12_second p0' p2' p4' p6' S' := by
  unfold f_X12_second g_X12_second
  exact (l_X12_second_8 hp6 (pJ_mul hp0 (pJ_sub hp4 hp2)) hS)
def g_X12_liesIn_102 (s0 : Int) (S : MZ) : Option (Int × MZ) := (some (s0, S))
theorem l_X12_liesIn_102 {s0 : Int64} {s0' : Int} (hs0 : tJ s0 = s0') {S : Mem} {S' : MZ} (hS : tz S = S') : Lf tJ (f_X12_liesIn_102 s0 S) = g_X12_liesIn_102 s0' S' := by
  unfold f_X12_liesIn_102 g_X12_liesIn_102
  exact (Lf_some hs0 hS)
def g_X12_liesIn_124 (s0 : Int) (S : MZ) : Option (Int × MZ) := (some (s0, S))
theorem l_X12_liesIn_124 {s0 : Int64} {s0' : Int} (hs0 : tJ s0 = s0') {S : Mem} {S' : MZ} (hS : tz S = S') : Lf tJ (f_X12_liesIn_124 s0 S) = g_X12_liesIn_124 s0' S' := by
  unfold f_X12_liesIn_124 g_X12_liesIn_124
  exact (Lf_some hs0 hS)
def g_X12_liesIn_74 (v2 : Int) (v3 : Int) (v4 : Int) (v6 : Int) (v7 : Int) (v8 : Int) (v9 : Int) (s0 : Int) (S : MZ) : Option (Int × MZ) := (if v6 = 0 then (if v8 < v3 then ((g_X12_first v4 v9 s0 v7 S).bind fun q99 => (g_X12_liesIn_102 q99.1 q99.2)) else (g_X12_liesIn_102 0 S)) else (if v2 ≤ v8 then ((g_X12_second v4 v9 s0 v7 S).bind fun q121 => (g_X12_liesIn_124 q121.1 q121.2)) else (g_X12_liesIn_124 0 S)))
theorem l_X12_liesIn_74 {v2 : Int32} {v2' : Int} (hv2 : tI v2 = v2') {v3 : Int32} {v3' : Int} (hv3 : tI v3 = v3') {v4 : Int64} {v4' : Int} (hv4 : tJ v4 = v4') {v6 : Int32} {v6' : Int} (hv6 : tI v6 = v6') {v7 : Int32} {v7' : Int} (hv7 : tI v7 = v7') {v8 : Int32} {v8' : Int} (hv8 : tI v8 = v8') {v9 : Int64} {v9' : Int} (hv9 : tJ v9 = v9') {s0 : Int64} {s0' : Int} (hs0 : tJ s0 = s0') {S : Mem} {S' : MZ} (hS : tz S = S') : Lf tJ (f_X12_liesIn_74 v2 v3 v4 v6 v7 v8 v9 s0 S) = g_X12_liesIn_74 v2' v3' v4' v6' v7' v8' v9' s0' S' := by
  unfold f_X12_liesIn_74 g_X12_liesIn_74
  exact (Lf_if (cI_eq hv6 rfl) (Lf_if (cI_lt hv8 hv3) (Lf_bind (l_X12_first hv4 hv9 hs0 hv7 hS) (fun q99 => (l_X12_liesIn_102 rfl rfl))) (l_X12_liesIn_102 rfl hS)) (Lf_if (cI_le hv2 hv8) (Lf_bind (l_X12_second hv4 hv9 hs0 hv7 hS) (fun q121 => (l_X12_liesIn_124 rfl rfl))) (l_X12_liesIn_124 rfl hS)))
def g_X12_liesIn_59 (v2 : Int) (v3 : Int) (v4 : Int) (v6 : Int) (v7 : Int) (v8 : Int) (v9 : Int) (S : MZ) : Option (Int × MZ) := (if (0 ≤ v3 ∧ v3 < ((41 : Nat) : Int)) then (g_X12_liesIn_74 v2 v3 v4 v6 v7 v8 v9 (zL S 21 (v3).toNat) S) else none)
theorem l_X12_liesIn_59 {v2 : Int32} {v2' : Int} (hv2 : tI v2 = v2') {v3 : Int32} {v3' : Int} (hv3 : tI v3 = v3') {v4 : Int64} {v4' : Int} (hv4 : tJ v4 = v4') {v6 : Int32} {v6' : Int} (hv6 : tI v6 = v6') {v7 : Int32} {v7' : Int} (hv7 : tI v7 = v7') {v8 : Int32} {v8' : Int} (hv8 : tI v8 = v8') {v9 : Int64} {v9' : Int} (hv9 : tJ v9 = v9') {S : Mem} {S' : MZ} (hS : tz S = S') : Lf tJ (f_X12_liesIn_59 v2 v3 v4 v6 v7 v8 v9 S) = g_X12_liesIn_59 v2' v3' v4' v6' v7' v8' v9' S' := by
  unfold f_X12_liesIn_59 g_X12_liesIn_59
  exact (Lf_if (c_inb hv3 rfl) (l_X12_liesIn_74 hv2 hv3 hv4 hv6 hv7 hv8 hv9 (pJ_g hS rfl (pN_of hv3)) hS) rfl)
def g_X12_liesIn_40 (v1 : Int) (v2 : Int) (v3 : Int) (v4 : Int) (v6 : Int) (v7 : Int) (v8 : Int) (s0 : Int) (S : MZ) : Option (Int × MZ) := (if v8 < v2 then (g_X12_liesIn_59 v2 v3 v4 v6 v7 v8 s0 S) else (if v3 ≤ v8 then (g_X12_liesIn_59 v2 v3 v4 v6 v7 v8 s0 S) else (if v6 = 0 then (g_X12_liesIn_59 v2 v3 v4 v6 v7 v8 s0 S) else ((g_X12_ofPool v1 0 S).bind fun q71 => (g_X12_liesIn_74 v2 v3 v4 v6 v7 v8 s0 q71.1 q71.2)))))
theorem l_X12_liesIn_40 {v1 : Int32} {v1' : Int} (hv1 : tI v1 = v1') {v2 : Int32} {v2' : Int} (hv2 : tI v2 = v2') {v3 : Int32} {v3' : Int} (hv3 : tI v3 = v3') {v4 : Int64} {v4' : Int} (hv4 : tJ v4 = v4') {v6 : Int32} {v6' : Int} (hv6 : tI v6 = v6') {v7 : Int32} {v7' : Int} (hv7 : tI v7 = v7') {v8 : Int32} {v8' : Int} (hv8 : tI v8 = v8') {s0 : Int64} {s0' : Int} (hs0 : tJ s0 = s0') {S : Mem} {S' : MZ} (hS : tz S = S') : Lf tJ (f_X12_liesIn_40 v1 v2 v3 v4 v6 v7 v8 s0 S) = g_X12_liesIn_40 v1' v2' v3' v4' v6' v7' v8' s0' S' := by
  unfold f_X12_liesIn_40 g_X12_liesIn_40
  exact (Lf_if (cI_lt hv8 hv2) (l_X12_liesIn_59 hv2 hv3 hv4 hv6 hv7 hv8 hs0 hS) (Lf_if (cI_le hv3 hv8) (l_X12_liesIn_59 hv2 hv3 hv4 hv6 hv7 hv8 hs0 hS) (Lf_if (cI_eq hv6 rfl) (l_X12_liesIn_59 hv2 hv3 hv4 hv6 hv7 hv8 hs0 hS) (Lf_bind (l_X12_ofPool hv1 rfl hS) (fun q71 => (l_X12_liesIn_74 hv2 hv3 hv4 hv6 hv7 hv8 hs0 rfl rfl))))))
def g_X12_liesIn_25 (v1 : Int) (v2 : Int) (v3 : Int) (v4 : Int) (v6 : Int) (v7 : Int) (v8 : Int) (S : MZ) : Option (Int × MZ) := (if (0 ≤ v2 ∧ v2 < ((41 : Nat) : Int)) then (g_X12_liesIn_40 v1 v2 v3 v4 v6 v7 v8 (zL S 21 (v2).toNat) S) else none)
theorem l_X12_liesIn_25 {v1 : Int32} {v1' : Int} (hv1 : tI v1 = v1') {v2 : Int32} {v2' : Int} (hv2 : tI v2 = v2') {v3 : Int32} {v3' : Int} (hv3 : tI v3 = v3') {v4 : Int64} {v4' : Int} (hv4 : tJ v4 = v4') {v6 : Int32} {v6' : Int} (hv6 : tI v6 = v6') {v7 : Int32} {v7' : Int} (hv7 : tI v7 = v7') {v8 : Int32} {v8' : Int} (hv8 : tI v8 = v8') {S : Mem} {S' : MZ} (hS : tz S = S') : Lf tJ (f_X12_liesIn_25 v1 v2 v3 v4 v6 v7 v8 S) = g_X12_liesIn_25 v1' v2' v3' v4' v6' v7' v8' S' := by
  unfold f_X12_liesIn_25 g_X12_liesIn_25
  exact (Lf_if (c_inb hv2 rfl) (l_X12_liesIn_40 hv1 hv2 hv3 hv4 hv6 hv7 hv8 (pJ_g hS rfl (pN_of hv2)) hS) rfl)
def g_X12_liesIn (p1 : Int) (p2 : Int) (p3 : Int) (p4 : Int) (p6 : Int) (p7 : Int) (S : MZ) : Option (Int × MZ) := ((g_X12_zoneNow p1 S).bind fun q2 => (if q2.1 < p2 then (g_X12_liesIn_25 p1 p2 p3 p4 p6 p7 q2.1 q2.2) else (if p3 ≤ q2.1 then (g_X12_liesIn_25 p1 p2 p3 p4 p6 p7 q2.1 q2.2) else (if p6 = 1 then (g_X12_liesIn_25 p1 p2 p3 p4 p6 p7 q2.1 q2.2) else ((g_X12_ofPool p1 0 q2.2).bind fun q37 => (g_X12_liesIn_40 p1 p2 p3 p4 p6 p7 q2.1 q37.1 q37.2))))))
theorem l_X12_liesIn {p1 : Int32} {p1' : Int} (hp1 : tI p1 = p1') {p2 : Int32} {p2' : Int} (hp2 : tI p2 = p2') {p3 : Int32} {p3' : Int} (hp3 : tI p3 = p3') {p4 : Int64} {p4' : Int} (hp4 : tJ p4 = p4') {p6 : Int32} {p6' : Int} (hp6 : tI p6 = p6') {p7 : Int32} {p7' : Int} (hp7 : tI p7 = p7') {S : Mem} {S' : MZ} (hS : tz S = S') : Lf tJ (f_X12_liesIn p1 p2 p3 p4 p6 p7 S) = g_X12_liesIn p1' p2' p3' p4' p6' p7' S' := by
  unfold f_X12_liesIn g_X12_liesIn
  exact (Lf_bind (l_X12_zoneNow hp1 hS) (fun q2 => (Lf_if (cI_lt rfl hp2) (l_X12_liesIn_25 hp1 hp2 hp3 hp4 hp6 hp7 rfl rfl) (Lf_if (cI_le hp3 rfl) (l_X12_liesIn_25 hp1 hp2 hp3 hp4 hp6 hp7 rfl rfl) (Lf_if (cI_eq hp6 rfl) (l_X12_liesIn_25 hp1 hp2 hp3 hp4 hp6 hp7 rfl rfl) (Lf_bind (l_X12_ofPool hp1 rfl rfl) (fun q37 => (l_X12_liesIn_40 hp1 hp2 hp3 hp4 hp6 hp7 rfl rfl rfl))))))))
def g_X12_isAcross_41 (s0 : Int) (S : MZ) : Option (Int × MZ) := (if (s0 = 0 ∨ s0 = 1) then (some (s0, S)) else none)
theorem l_X12_isAcross_41 {s0 : Int32} {s0' : Int} (hs0 : tI s0 = s0') {S : Mem} {S' : MZ} (hS : tz S = S') : Lf tI (f_X12_isAcross_41 s0 S) = g_X12_isAcross_41 s0' S' := by
  unfold f_X12_isAcross_41 g_X12_isAcross_41
  exact (Lf_if (c_isB hs0) (Lf_some hs0 hS) rfl)
def g_X12_isAcross_40 (S : MZ) : Option (Int × MZ) := (g_X12_isAcross_41 0 S)
theorem l_X12_isAcross_40 {S : Mem} {S' : MZ} (hS : tz S = S') : Lf tI (f_X12_isAcross_40 S) = g_X12_isAcross_40 S' := by
  unfold f_X12_isAcross_40 g_X12_isAcross_40
  exact (l_X12_isAcross_41 rfl hS)
def g_X12_isAcross (p1 : Int) (p2 : Int) (p3 : Int) (S : MZ) : Option (Int × MZ) := ((g_X12_ofStake p1 1 S).bind fun q3 => (if q3.1 = p2 then ((g_X12_ofStake p1 2 q3.2).bind fun q15 => (if p3 < q15.1 then (g_X12_isAcross_40 q15.2) else ((g_X12_ofStake p1 3 q15.2).bind fun q27 => (if q27.1 ≤ p3 then (g_X12_isAcross_40 q27.2) else (g_X12_isAcross_41 1 q27.2))))) else (g_X12_isAcross_40 q3.2)))
theorem l_X12_isAcross {p1 : Int32} {p1' : Int} (hp1 : tI p1 = p1') {p2 : Int32} {p2' : Int} (hp2 : tI p2 = p2') {p3 : Int32} {p3' : Int} (hp3 : tI p3 = p3') {S : Mem} {S' : MZ} (hS : tz S = S') : Lf tI (f_X12_isAcross p1 p2 p3 S) = g_X12_isAcross p1' p2' p3' S' := by
  unfold f_X12_isAcross g_X12_isAcross
  exact (Lf_bind (l_X12_ofStake hp1 rfl hS) (fun q3 => (Lf_if (cJ_eq rfl (pJ_of hp2)) (Lf_bind (l_X12_ofStake hp1 rfl rfl) (fun q15 => (Lf_if (cJ_lt (pJ_of hp3) rfl) (l_X12_isAcross_40 rfl) (Lf_bind (l_X12_ofStake hp1 rfl rfl) (fun q27 => (Lf_if (cJ_le rfl (pJ_of hp3)) (l_X12_isAcross_40 rfl) (l_X12_isAcross_41 rfl rfl))))))) (l_X12_isAcross_40 rfl))))
def g_X12_depthOf_39 (k5 : Int → Int → Int → Int → MZ → Option (Int × MZ)) (v1 : Int) (v2 : Int) (v3 : Int) (v5 : Int) (S : MZ) : Option (Int × MZ) := (k5 v1 v2 v3 (w32 (v5 + 1)) S)
theorem l_X12_depthOf_39 {k5 : Int32 → Int32 → Int64 → Int32 → Mem → Option (Int64 × Mem)} {k5' : Int → Int → Int → Int → MZ → Option (Int × MZ)} (hk5 : ∀ {x0 : Int32} {x1 : Int32} {x2 : Int64} {x3 : Int32} {x4 : Mem} {y0 : Int} {y1 : Int} {y2 : Int} {y3 : Int} {y4 : MZ}, tI x0 = y0 → tI x1 = y1 → tJ x2 = y2 → tI x3 = y3 → tz x4 = y4 → Lf tJ (k5 x0 x1 x2 x3 x4) = k5' y0 y1 y2 y3 y4) {v1 : Int32} {v1' : Int} (hv1 : tI v1 = v1') {v2 : Int32} {v2' : Int} (hv2 : tI v2 = v2') {v3 : Int64} {v3' : Int} (hv3 : tJ v3 = v3') {v5 : Int32} {v5' : Int} (hv5 : tI v5 = v5') {S : Mem} {S' : MZ} (hS : tz S = S') : Lf tJ (f_X12_depthOf_39 k5 v1 v2 v3 v5 S) = g_X12_depthOf_39 k5' v1' v2' v3' v5' S' := by
  unfold f_X12_depthOf_39 g_X12_depthOf_39
  exact (hk5 hv1 hv2 hv3 (pI_add hv5 rfl) hS)
def g_X12_depthOf_37 (k5 : Int → Int → Int → Int → MZ → Option (Int × MZ)) (v1 : Int) (v2 : Int) (v5 : Int) (s0 : Int) (s1 : Int) (S : MZ) : Option (Int × MZ) := (g_X12_depthOf_39 k5 v1 v2 (w64 (s1 + s0)) v5 S)
theorem l_X12_depthOf_37 {k5 : Int32 → Int32 → Int64 → Int32 → Mem → Option (Int64 × Mem)} {k5' : Int → Int → Int → Int → MZ → Option (Int × MZ)} (hk5 : ∀ {x0 : Int32} {x1 : Int32} {x2 : Int64} {x3 : Int32} {x4 : Mem} {y0 : Int} {y1 : Int} {y2 : Int} {y3 : Int} {y4 : MZ}, tI x0 = y0 → tI x1 = y1 → tJ x2 = y2 → tI x3 = y3 → tz x4 = y4 → Lf tJ (k5 x0 x1 x2 x3 x4) = k5' y0 y1 y2 y3 y4) {v1 : Int32} {v1' : Int} (hv1 : tI v1 = v1') {v2 : Int32} {v2' : Int} (hv2 : tI v2 = v2') {v5 : Int32} {v5' : Int} (hv5 : tI v5 = v5') {s0 : Int64} {s0' : Int} (hs0 : tJ s0 = s0') {s1 : Int64} {s1' : Int} (hs1 : tJ s1 = s1') {S : Mem} {S' : MZ} (hS : tz S = S') : Lf tJ (f_X12_depthOf_37 k5 v1 v2 v5 s0 s1 S) = g_X12_depthOf_37 k5' v1' v2' v5' s0' s1' S' := by
  unfold f_X12_depthOf_37 g_X12_depthOf_37
  exact (l_X12_depthOf_39 hk5 hv1 hv2 (pJ_add hs1 hs0) hv5 hS)
def g_X12_depthOf_5B (k5 : Int → Int → Int → Int → MZ → Option (Int × MZ)) (v1 : Int) (v2 : Int) (v3 : Int) (v5 : Int) (S : MZ) : Option (Int × MZ) := ((g_X12_stakes S).bind fun q8 => (if q8.1 ≤ v5 then (some (v3, q8.2)) else ((g_X12_isAcross v5 v1 v2 q8.2).bind fun q20 => (if q20.1 = 0 then (g_X12_depthOf_37 k5 v1 v2 v5 0 v3 q20.2) else ((g_X12_ofStake v5 5 q20.2).bind fun q30 => (g_X12_depthOf_37 k5 v1 v2 v5 q30.1 v3 q30.2))))))
theorem l_X12_depthOf_5B {k5 : Int32 → Int32 → Int64 → Int32 → Mem → Option (Int64 × Mem)} {k5' : Int → Int → Int → Int → MZ → Option (Int × MZ)} (hk5 : ∀ {x0 : Int32} {x1 : Int32} {x2 : Int64} {x3 : Int32} {x4 : Mem} {y0 : Int} {y1 : Int} {y2 : Int} {y3 : Int} {y4 : MZ}, tI x0 = y0 → tI x1 = y1 → tJ x2 = y2 → tI x3 = y3 → tz x4 = y4 → Lf tJ (k5 x0 x1 x2 x3 x4) = k5' y0 y1 y2 y3 y4) {v1 : Int32} {v1' : Int} (hv1 : tI v1 = v1') {v2 : Int32} {v2' : Int} (hv2 : tI v2 = v2') {v3 : Int64} {v3' : Int} (hv3 : tJ v3 = v3') {v5 : Int32} {v5' : Int} (hv5 : tI v5 = v5') {S : Mem} {S' : MZ} (hS : tz S = S') : Lf tJ (f_X12_depthOf_5B k5 v1 v2 v3 v5 S) = g_X12_depthOf_5B k5' v1' v2' v3' v5' S' := by
  unfold f_X12_depthOf_5B g_X12_depthOf_5B
  exact (Lf_bind (l_X12_stakes hS) (fun q8 => (Lf_if (cI_le rfl hv5) (Lf_some hv3 rfl) (Lf_bind (l_X12_isAcross hv5 hv1 hv2 rfl) (fun q20 => (Lf_if (cI_eq rfl rfl) (l_X12_depthOf_37 hk5 hv1 hv2 hv5 rfl hv3 rfl) (Lf_bind (l_X12_ofStake hv5 rfl rfl) (fun q30 => (l_X12_depthOf_37 hk5 hv1 hv2 hv5 rfl hv3 rfl)))))))))
def g_X12_depthOf_5 : Nat → Int → Int → Int → Int → MZ → Option (Int × MZ)
  | 0 => fun _ _ _ _ _ => none
  | n + 1 => g_X12_depthOf_5B (g_X12_depthOf_5 n)
theorem l_X12_depthOf_5 : ∀ (n : Nat) {x0 : Int32} {x1 : Int32} {x2 : Int64} {x3 : Int32} {x4 : Mem} {y0 : Int} {y1 : Int} {y2 : Int} {y3 : Int} {y4 : MZ}, tI x0 = y0 → tI x1 = y1 → tJ x2 = y2 → tI x3 = y3 → tz x4 = y4 → Lf tJ (f_X12_depthOf_5 n x0 x1 x2 x3 x4) = g_X12_depthOf_5 n y0 y1 y2 y3 y4
  | 0, _, _, _, _, _, _, _, _, _, _, _, _, _, _, _ => rfl
  | n + 1, _, _, _, _, _, _, _, _, _, _, e0, e1, e2, e3, e4 => l_X12_depthOf_5B (fun de0 de1 de2 de3 de4 => l_X12_depthOf_5 n de0 de1 de2 de3 de4) e0 e1 e2 e3 e4
def g_X12_depthOf (p1 : Int) (p2 : Int) (S : MZ) : Option (Int × MZ) := (g_X12_depthOf_5 100000 p1 p2 0 0 S)
theorem l_X12_depthOf {p1 : Int32} {p1' : Int} (hp1 : tI p1 = p1') {p2 : Int32} {p2' : Int} (hp2 : tI p2 = p2') {S : Mem} {S' : MZ} (hS : tz S = S') : Lf tJ (f_X12_depthOf p1 p2 S) = g_X12_depthOf p1' p2' S' := by
  unfold f_X12_depthOf g_X12_depthOf
  exact (l_X12_depthOf_5 100000 hp1 hp2 rfl rfl hS)
def g_X12_owedTo (p1 : Int) (p2 : Int) (S : MZ) : Option (Int × MZ) := ((g_X12_ofStake p1 (w32 (8 + p2)) S).bind fun q6 => ((g_X12_ofStake p1 5 q6.2).bind fun q12 => ((g_X12_ofStake p1 (w32 (6 + p2)) q12.2).bind fun q21 => (some ((w64 (q6.1 + (w64 (Int.tdiv (w64 (q12.1 * q21.1)) 1048576)))), q21.2)))))
theorem l_X12_owedTo {p1 : Int32} {p1' : Int} (hp1 : tI p1 = p1') {p2 : Int32} {p2' : Int} (hp2 : tI p2 = p2') {S : Mem} {S' : MZ} (hS : tz S = S') : Lf tJ (f_X12_owedTo p1 p2 S) = g_X12_owedTo p1' p2' S' := by
  unfold f_X12_owedTo g_X12_owedTo
  exact (Lf_bind (l_X12_ofStake hp1 (pI_add rfl hp2) hS) (fun q6 => (Lf_bind (l_X12_ofStake hp1 rfl rfl) (fun q12 => (Lf_bind (l_X12_ofStake hp1 (pI_add rfl hp2) rfl) (fun q21 => (Lf_some (pJ_add rfl (pJ_div (pJ_mul rfl rfl) rfl)) rfl)))))))
def g_X12_settles_2B (k2 : Int → Int → MZ → Option (Unit × MZ)) (v1 : Int) (v2 : Int) (S : MZ) : Option (Unit × MZ) := (if 2 ≤ v2 then (some ((), S)) else ((g_X12_owedTo v1 v2 S).bind fun q16 => ((g_X12_setStake v1 (w32 (8 + v2)) q16.1 q16.2).bind fun q19 => ((g_X12_setStake v1 (w32 (6 + v2)) 0 q19.2).bind fun q29 => (k2 v1 (w32 (v2 + 1)) q29.2)))))
theorem l_X12_settles_2B {k2 : Int32 → Int32 → Mem → Option (Unit × Mem)} {k2' : Int → Int → MZ → Option (Unit × MZ)} (hk2 : ∀ {x0 : Int32} {x1 : Int32} {x2 : Mem} {y0 : Int} {y1 : Int} {y2 : MZ}, tI x0 = y0 → tI x1 = y1 → tz x2 = y2 → Lf tU (k2 x0 x1 x2) = k2' y0 y1 y2) {v1 : Int32} {v1' : Int} (hv1 : tI v1 = v1') {v2 : Int32} {v2' : Int} (hv2 : tI v2 = v2') {S : Mem} {S' : MZ} (hS : tz S = S') : Lf tU (f_X12_settles_2B k2 v1 v2 S) = g_X12_settles_2B k2' v1' v2' S' := by
  unfold f_X12_settles_2B g_X12_settles_2B
  exact (Lf_if (cI_le rfl hv2) (Lf_some rfl hS) (Lf_bind (l_X12_owedTo hv1 hv2 hS) (fun q16 => (Lf_bind (l_X12_setStake hv1 (pI_add rfl hv2) rfl rfl) (fun q19 => (Lf_bind (l_X12_setStake hv1 (pI_add rfl hv2) rfl rfl) (fun q29 => (hk2 hv1 (pI_add hv2 rfl) rfl))))))))
def g_X12_settles_2 : Nat → Int → Int → MZ → Option (Unit × MZ)
  | 0 => fun _ _ _ => none
  | n + 1 => g_X12_settles_2B (g_X12_settles_2 n)
theorem l_X12_settles_2 : ∀ (n : Nat) {x0 : Int32} {x1 : Int32} {x2 : Mem} {y0 : Int} {y1 : Int} {y2 : MZ}, tI x0 = y0 → tI x1 = y1 → tz x2 = y2 → Lf tU (f_X12_settles_2 n x0 x1 x2) = g_X12_settles_2 n y0 y1 y2
  | 0, _, _, _, _, _, _, _, _, _ => rfl
  | n + 1, _, _, _, _, _, _, e0, e1, e2 => l_X12_settles_2B (fun de0 de1 de2 => l_X12_settles_2 n de0 de1 de2) e0 e1 e2
def g_X12_settles (p1 : Int) (S : MZ) : Option (Unit × MZ) := (g_X12_settles_2 100000 p1 0 S)
theorem l_X12_settles {p1 : Int32} {p1' : Int} (hp1 : tI p1 = p1') {S : Mem} {S' : MZ} (hS : tz S = S') : Lf tU (f_X12_settles p1 S) = g_X12_settles p1' S' := by
  unfold f_X12_settles g_X12_settles
  exact (l_X12_settles_2 100000 hp1 rfl hS)
def g_X12_goesOut (p1 : Int) (p2 : Int) (p3 : Int) (p4 : Int) (S : MZ) : Option (Unit × MZ) := ((g_X12_morePool p1 (w32 (2 + p3)) (w64 (-p4)) S).bind fun q8 => ((g_X12_thingOf p1 p3 q8.2).bind fun q16 => ((g_X12_morePurse p2 q16.1 p4 q16.2).bind fun q21 => (some ((), q21.2)))))
theorem l_X12_goesOut {p1 : Int32} {p1' : Int} (hp1 : tI p1 = p1') {p2 : Int32} {p2' : Int} (hp2 : tI p2 = p2') {p3 : Int32} {p3' : Int} (hp3 : tI p3 = p3') {p4 : Int64} {p4' : Int} (hp4 : tJ p4 = p4') {S : Mem} {S' : MZ} (hS : tz S = S') : Lf tU (f_X12_goesOut p1 p2 p3 p4 S) = g_X12_goesOut p1' p2' p3' p4' S' := by
  unfold f_X12_goesOut g_X12_goesOut
  exact (Lf_bind (l_X12_morePool hp1 (pI_add rfl hp3) (pJ_neg hp4) hS) (fun q8 => (Lf_bind (l_X12_thingOf hp1 hp3 rfl) (fun q16 => (Lf_bind (l_X12_morePurse hp2 rfl hp4 rfl) (fun q21 => (Lf_some rfl rfl)))))))
def g_X12_paysOut_61 (k5 : Int → Int → Int → MZ → Option (Int × MZ)) (v1 : Int) (v2 : Int) (v4 : Int) (S : MZ) : Option (Int × MZ) := (k5 v1 v2 (w32 (v4 + 1)) S)
theorem l_X12_paysOut_61 {k5 : Int32 → Int64 → Int32 → Mem → Option (Int64 × Mem)} {k5' : Int → Int → Int → MZ → Option (Int × MZ)} (hk5 : ∀ {x0 : Int32} {x1 : Int64} {x2 : Int32} {x3 : Mem} {y0 : Int} {y1 : Int} {y2 : Int} {y3 : MZ}, tI x0 = y0 → tJ x1 = y1 → tI x2 = y2 → tz x3 = y3 → Lf tJ (k5 x0 x1 x2 x3) = k5' y0 y1 y2 y3) {v1 : Int32} {v1' : Int} (hv1 : tI v1 = v1') {v2 : Int64} {v2' : Int} (hv2 : tJ v2 = v2') {v4 : Int32} {v4' : Int} (hv4 : tI v4 = v4') {S : Mem} {S' : MZ} (hS : tz S = S') : Lf tJ (f_X12_paysOut_61 k5 v1 v2 v4 S) = g_X12_paysOut_61 k5' v1' v2' v4' S' := by
  unfold f_X12_paysOut_61 g_X12_paysOut_61
  exact (hk5 hv1 hv2 (pI_add hv4 rfl) hS)
def g_X12_paysOut_5B (k5 : Int → Int → Int → MZ → Option (Int × MZ)) (v1 : Int) (v2 : Int) (v4 : Int) (S : MZ) : Option (Int × MZ) := (if 2 ≤ v4 then (some (v2, S)) else ((g_X12_ofStake v1 (w32 (8 + v4)) S).bind fun q18 => ((g_X12_ofStake v1 1 q18.2).bind fun q27 => ((g_X12_ofStake v1 0 q27.2).bind fun q34 => ((g_X12_goesOut (w32 q27.1) (w32 q34.1) v4 q18.1 q34.2).bind fun q42 => ((g_X12_setStake v1 (w32 (8 + v4)) 0 q42.2).bind fun q53 => (g_X12_paysOut_61 k5 v1 (w64 (v2 + q18.1)) v4 q53.2)))))))
theorem l_X12_paysOut_5B {k5 : Int32 → Int64 → Int32 → Mem → Option (Int64 × Mem)} {k5' : Int → Int → Int → MZ → Option (Int × MZ)} (hk5 : ∀ {x0 : Int32} {x1 : Int64} {x2 : Int32} {x3 : Mem} {y0 : Int} {y1 : Int} {y2 : Int} {y3 : MZ}, tI x0 = y0 → tJ x1 = y1 → tI x2 = y2 → tz x3 = y3 → Lf tJ (k5 x0 x1 x2 x3) = k5' y0 y1 y2 y3) {v1 : Int32} {v1' : Int} (hv1 : tI v1 = v1') {v2 : Int64} {v2' : Int} (hv2 : tJ v2 = v2') {v4 : Int32} {v4' : Int} (hv4 : tI v4 = v4') {S : Mem} {S' : MZ} (hS : tz S = S') : Lf tJ (f_X12_paysOut_5B k5 v1 v2 v4 S) = g_X12_paysOut_5B k5' v1' v2' v4' S' := by
  unfold f_X12_paysOut_5B g_X12_paysOut_5B
  exact (Lf_if (cI_le rfl hv4) (Lf_some hv2 hS) (Lf_bind (l_X12_ofStake hv1 (pI_add rfl hv4) hS) (fun q18 => (Lf_bind (l_X12_ofStake hv1 rfl rfl) (fun q27 => (Lf_bind (l_X12_ofStake hv1 rfl rfl) (fun q34 => (Lf_bind (l_X12_goesOut (pI_of rfl) (pI_of rfl) hv4 rfl rfl) (fun q42 => (Lf_bind (l_X12_setStake hv1 (pI_add rfl hv4) rfl rfl) (fun q53 => (l_X12_paysOut_61 hk5 hv1 (pJ_add hv2 rfl) hv4 rfl))))))))))))
def g_X12_paysOut_5 : Nat → Int → Int → Int → MZ → Option (Int × MZ)
  | 0 => fun _ _ _ _ => none
  | n + 1 => g_X12_paysOut_5B (g_X12_paysOut_5 n)
theorem l_X12_paysOut_5 : ∀ (n : Nat) {x0 : Int32} {x1 : Int64} {x2 : Int32} {x3 : Mem} {y0 : Int} {y1 : Int} {y2 : Int} {y3 : MZ}, tI x0 = y0 → tJ x1 = y1 → tI x2 = y2 → tz x3 = y3 → Lf tJ (f_X12_paysOut_5 n x0 x1 x2 x3) = g_X12_paysOut_5 n y0 y1 y2 y3
  | 0, _, _, _, _, _, _, _, _, _, _, _, _ => rfl
  | n + 1, _, _, _, _, _, _, _, _, e0, e1, e2, e3 => l_X12_paysOut_5B (fun de0 de1 de2 de3 => l_X12_paysOut_5 n de0 de1 de2 de3) e0 e1 e2 e3
def g_X12_paysOut (p1 : Int) (S : MZ) : Option (Int × MZ) := (g_X12_paysOut_5 100000 p1 0 0 S)
theorem l_X12_paysOut {p1 : Int32} {p1' : Int} (hp1 : tI p1 = p1') {S : Mem} {S' : MZ} (hS : tz S = S') : Lf tJ (f_X12_paysOut p1 S) = g_X12_paysOut p1' S' := by
  unfold f_X12_paysOut g_X12_paysOut
  exact (l_X12_paysOut_5 100000 hp1 rfl rfl hS)
def g_X12_takesOut_110B (k110 : Int → MZ → Option (Unit × MZ)) (v5 : Int) (S : MZ) : Option (Unit × MZ) := ((g_X12_stakes S).bind fun q118 => (if (w32 (138 + (w32 (10 * (w32 (q118.1 - 1)))))) ≤ v5 then (some ((), (uL q118.2 23 137 (w64 ((zL q118.2 23 137) - 1))))) else (if (0 ≤ (w32 (v5 + 10)) ∧ (w32 (v5 + 10)) < ((258 : Nat) : Int)) then (if (0 ≤ v5 ∧ v5 < ((258 : Nat) : Int)) then (k110 (w32 (v5 + 1)) (uL q118.2 23 (v5).toNat (zL q118.2 23 ((w32 (v5 + 10))).toNat))) else none) else none)))
theorem l_X12_takesOut_110B {k110 : Int32 → Mem → Option (Unit × Mem)} {k110' : Int → MZ → Option (Unit × MZ)} (hk110 : ∀ {x0 : Int32} {x1 : Mem} {y0 : Int} {y1 : MZ}, tI x0 = y0 → tz x1 = y1 → Lf tU (k110 x0 x1) = k110' y0 y1) {v5 : Int32} {v5' : Int} (hv5 : tI v5 = v5') {S : Mem} {S' : MZ} (hS : tz S = S') : Lf tU (f_X12_takesOut_110B k110 v5 S) = g_X12_takesOut_110B k110' v5' S' := by
  unfold f_X12_takesOut_110B g_X12_takesOut_110B
  exact (Lf_bind (l_X12_stakes hS) (fun q118 => (Lf_if (cI_le (pI_add rfl (pI_mul rfl (pI_sub rfl rfl))) hv5) (Lf_some rfl (pM_L rfl rfl (pN_of (a' := 137) rfl) (pJ_sub (pJ_g rfl rfl (pN_of (a' := 137) rfl)) rfl))) (Lf_if (c_inb (pI_add hv5 rfl) rfl) (Lf_if (c_inb hv5 rfl) (hk110 (pI_add hv5 rfl) (pM_L rfl rfl (pN_of hv5) (pJ_g rfl rfl (pN_of (pI_add hv5 rfl))))) rfl) rfl))))
def g_X12_takesOut_110 : Nat → Int → MZ → Option (Unit × MZ)
  | 0 => fun _ _ => none
  | n + 1 => g_X12_takesOut_110B (g_X12_takesOut_110 n)
theorem l_X12_takesOut_110 : ∀ (n : Nat) {x0 : Int32} {x1 : Mem} {y0 : Int} {y1 : MZ}, tI x0 = y0 → tz x1 = y1 → Lf tU (f_X12_takesOut_110 n x0 x1) = g_X12_takesOut_110 n y0 y1
  | 0, _, _, _, _, _, _ => rfl
  | n + 1, _, _, _, _, e0, e1 => l_X12_takesOut_110B (fun de0 de1 => l_X12_takesOut_110 n de0 de1) e0 e1
def g_X12_takesOut_17B (k17 : Int → Int → Int → Int → MZ → Option (Unit × MZ)) (v1 : Int) (v2 : Int) (v4 : Int) (v5 : Int) (S : MZ) : Option (Unit × MZ) := (if 2 ≤ v5 then ((g_X12_ofStake v1 5 S).bind fun q74 => ((g_X12_setStake v1 5 (w64 (q74.1 - v2)) q74.2).bind fun q79 => ((g_X12_ofStake v1 5 q79.2).bind fun q85 => (if q85.1 ≤ 0 then ((g_X12_paysOut v1 q85.2).bind fun q96 => (g_X12_takesOut_110 100000 (w32 (138 + (w32 (10 * v1)))) q96.2)) else (some ((), q85.2)))))) else ((g_X12_ofStake v1 0 S).bind fun q29 => ((g_X12_ofStake v1 2 q29.2).bind fun q41 => ((g_X12_ofStake v1 3 q41.2).bind fun q48 => ((g_X12_liesIn v4 (w32 q41.1) (w32 q48.1) v2 v5 0 q48.2).bind fun q56 => ((g_X12_goesOut v4 (w32 q29.1) v5 q56.1 q56.2).bind fun q59 => (k17 v1 v2 v4 (w32 (v5 + 1)) q59.2)))))))
theorem l_X12_takesOut_17B {k17 : Int32 → Int64 → Int32 → Int32 → Mem → Option (Unit × Mem)} {k17' : Int → Int → Int → Int → MZ → Option (Unit × MZ)} (hk17 : ∀ {x0 : Int32} {x1 : Int64} {x2 : Int32} {x3 : Int32} {x4 : Mem} {y0 : Int} {y1 : Int} {y2 : Int} {y3 : Int} {y4 : MZ}, tI x0 = y0 → tJ x1 = y1 → tI x2 = y2 → tI x3 = y3 → tz x4 = y4 → Lf tU (k17 x0 x1 x2 x3 x4) = k17' y0 y1 y2 y3 y4) {v1 : Int32} {v1' : Int} (hv1 : tI v1 = v1') {v2 : Int64} {v2' : Int} (hv2 : tJ v2 = v2') {v4 : Int32} {v4' : Int} (hv4 : tI v4 = v4') {v5 : Int32} {v5' : Int} (hv5 : tI v5 = v5') {S : Mem} {S' : MZ} (hS : tz S = S') : Lf tU (f_X12_takesOut_17B k17 v1 v2 v4 v5 S) = g_X12_takesOut_17B k17' v1' v2' v4' v5' S' := by
  unfold f_X12_takesOut_17B g_X12_takesOut_17B
  exact (Lf_if (cI_le rfl hv5) (Lf_bind (l_X12_ofStake hv1 rfl hS) (fun q74 => (Lf_bind (l_X12_setStake hv1 rfl (pJ_sub rfl hv2) rfl) (fun q79 => (Lf_bind (l_X12_ofStake hv1 rfl rfl) (fun q85 => (Lf_if (cJ_le rfl rfl) (Lf_bind (l_X12_paysOut hv1 rfl) (fun q96 => (l_X12_takesOut_110 100000 (pI_add rfl (pI_mul rfl hv1)) rfl))) (Lf_some rfl rfl)))))))) (Lf_bind (l_X12_ofStake hv1 rfl hS) (fun q29 => (Lf_bind (l_X12_ofStake hv1 rfl rfl) (fun q41 => (Lf_bind (l_X12_ofStake hv1 rfl rfl) (fun q48 => (Lf_bind (l_X12_liesIn hv4 (pI_of rfl) (pI_of rfl) hv2 hv5 rfl rfl) (fun q56 => (Lf_bind (l_X12_goesOut hv4 (pI_of rfl) hv5 rfl rfl) (fun q59 => (hk17 hv1 hv2 hv4 (pI_add hv5 rfl) rfl))))))))))))
def g_X12_takesOut_17 : Nat → Int → Int → Int → Int → MZ → Option (Unit × MZ)
  | 0 => fun _ _ _ _ _ => none
  | n + 1 => g_X12_takesOut_17B (g_X12_takesOut_17 n)
theorem l_X12_takesOut_17 : ∀ (n : Nat) {x0 : Int32} {x1 : Int64} {x2 : Int32} {x3 : Int32} {x4 : Mem} {y0 : Int} {y1 : Int} {y2 : Int} {y3 : Int} {y4 : MZ}, tI x0 = y0 → tJ x1 = y1 → tI x2 = y2 → tI x3 = y3 → tz x4 = y4 → Lf tU (f_X12_takesOut_17 n x0 x1 x2 x3 x4) = g_X12_takesOut_17 n y0 y1 y2 y3 y4
  | 0, _, _, _, _, _, _, _, _, _, _, _, _, _, _, _ => rfl
  | n + 1, _, _, _, _, _, _, _, _, _, _, e0, e1, e2, e3, e4 => l_X12_takesOut_17B (fun de0 de1 de2 de3 de4 => l_X12_takesOut_17 n de0 de1 de2 de3 de4) e0 e1 e2 e3 e4
def g_X12_takesOut_9 (v1 : Int) (v2 : Int) (v4 : Int) (S : MZ) : Option (Unit × MZ) := ((g_X12_settles v1 S).bind fun q11 => (g_X12_takesOut_17 100000 v1 v2 v4 0 q11.2))
theorem l_X12_takesOut_9 {v1 : Int32} {v1' : Int} (hv1 : tI v1 = v1') {v2 : Int64} {v2' : Int} (hv2 : tJ v2 = v2') {v4 : Int32} {v4' : Int} (hv4 : tI v4 = v4') {S : Mem} {S' : MZ} (hS : tz S = S') : Lf tU (f_X12_takesOut_9 v1 v2 v4 S) = g_X12_takesOut_9 v1' v2' v4' S' := by
  unfold f_X12_takesOut_9 g_X12_takesOut_9
  exact (Lf_bind (l_X12_settles hv1 hS) (fun q11 => (l_X12_takesOut_17 100000 hv1 hv2 hv4 rfl rfl)))
def g_X12_takesOut (p1 : Int) (p2 : Int) (S : MZ) : Option (Unit × MZ) := ((g_X12_ofStake p1 1 S).bind fun q3 => (g_X12_takesOut_9 p1 p2 (w32 q3.1) q3.2))
theorem l_X12_takesOut {p1 : Int32} {p1' : Int} (hp1 : tI p1 = p1') {p2 : Int64} {p2' : Int} (hp2 : tJ p2 = p2') {S : Mem} {S' : MZ} (hS : tz S = S') : Lf tU (f_X12_takesOut p1 p2 S) = g_X12_takesOut p1' p2' S' := by
  unfold f_X12_takesOut g_X12_takesOut
  exact (Lf_bind (l_X12_ofStake hp1 rfl hS) (fun q3 => (l_X12_takesOut_9 hp1 hp2 (pI_of rfl) rfl)))
def g_X12_stakeOf_82 (k3 : Int → Int → Int → Int → Int → Int → MZ → Option (Int × MZ)) (v1 : Int) (v2 : Int) (v3 : Int) (v4 : Int) (v5 : Int) (v6 : Int) (S : MZ) : Option (Int × MZ) := (k3 v1 v2 v3 v4 v5 (w32 (v6 + 1)) S)
theorem l_X12_stakeOf_82 {k3 : Int32 → Int32 → Int32 → Int32 → Int32 → Int32 → Mem → Option (Int32 × Mem)} {k3' : Int → Int → Int → Int → Int → Int → MZ → Option (Int × MZ)} (hk3 : ∀ {x0 : Int32} {x1 : Int32} {x2 : Int32} {x3 : Int32} {x4 : Int32} {x5 : Int32} {x6 : Mem} {y0 : Int} {y1 : Int} {y2 : Int} {y3 : Int} {y4 : Int} {y5 : Int} {y6 : MZ}, tI x0 = y0 → tI x1 = y1 → tI x2 = y2 → tI x3 = y3 → tI x4 = y4 → tI x5 = y5 → tz x6 = y6 → Lf tI (k3 x0 x1 x2 x3 x4 x5 x6) = k3' y0 y1 y2 y3 y4 y5 y6) {v1 : Int32} {v1' : Int} (hv1 : tI v1 = v1') {v2 : Int32} {v2' : Int} (hv2 : tI v2 = v2') {v3 : Int32} {v3' : Int} (hv3 : tI v3 = v3') {v4 : Int32} {v4' : Int} (hv4 : tI v4 = v4') {v5 : Int32} {v5' : Int} (hv5 : tI v5 = v5') {v6 : Int32} {v6' : Int} (hv6 : tI v6 = v6') {S : Mem} {S' : MZ} (hS : tz S = S') : Lf tI (f_X12_stakeOf_82 k3 v1 v2 v3 v4 v5 v6 S) = g_X12_stakeOf_82 k3' v1' v2' v3' v4' v5' v6' S' := by
  unfold f_X12_stakeOf_82 g_X12_stakeOf_82
  exact (hk3 hv1 hv2 hv3 hv4 hv5 (pI_add hv6 rfl) hS)
def g_X12_stakeOf_3B (k3 : Int → Int → Int → Int → Int → Int → MZ → Option (Int × MZ)) (v1 : Int) (v2 : Int) (v3 : Int) (v4 : Int) (v5 : Int) (v6 : Int) (S : MZ) : Option (Int × MZ) := ((g_X12_stakes S).bind fun q6 => (if q6.1 ≤ v6 then (some ((-1), q6.2)) else ((g_X12_ofStake v6 0 q6.2).bind fun q16 => (if q16.1 = v1 then ((g_X12_ofStake v6 1 q16.2).bind fun q29 => (if q29.1 = v2 then ((g_X12_ofStake v6 2 q29.2).bind fun q42 => (if q42.1 = v3 then ((g_X12_ofStake v6 3 q42.2).bind fun q55 => (if q55.1 = v4 then ((g_X12_ofStake v6 4 q55.2).bind fun q69 => (if q69.1 = v5 then (some (v6, q69.2)) else (g_X12_stakeOf_82 k3 v1 v2 v3 v4 v5 v6 q69.2))) else (g_X12_stakeOf_82 k3 v1 v2 v3 v4 v5 v6 q55.2))) else (g_X12_stakeOf_82 k3 v1 v2 v3 v4 v5 v6 q42.2))) else (g_X12_stakeOf_82 k3 v1 v2 v3 v4 v5 v6 q29.2))) else (g_X12_stakeOf_82 k3 v1 v2 v3 v4 v5 v6 q16.2)))))
theorem l_X12_stakeOf_3B {k3 : Int32 → Int32 → Int32 → Int32 → Int32 → Int32 → Mem → Option (Int32 × Mem)} {k3' : Int → Int → Int → Int → Int → Int → MZ → Option (Int × MZ)} (hk3 : ∀ {x0 : Int32} {x1 : Int32} {x2 : Int32} {x3 : Int32} {x4 : Int32} {x5 : Int32} {x6 : Mem} {y0 : Int} {y1 : Int} {y2 : Int} {y3 : Int} {y4 : Int} {y5 : Int} {y6 : MZ}, tI x0 = y0 → tI x1 = y1 → tI x2 = y2 → tI x3 = y3 → tI x4 = y4 → tI x5 = y5 → tz x6 = y6 → Lf tI (k3 x0 x1 x2 x3 x4 x5 x6) = k3' y0 y1 y2 y3 y4 y5 y6) {v1 : Int32} {v1' : Int} (hv1 : tI v1 = v1') {v2 : Int32} {v2' : Int} (hv2 : tI v2 = v2') {v3 : Int32} {v3' : Int} (hv3 : tI v3 = v3') {v4 : Int32} {v4' : Int} (hv4 : tI v4 = v4') {v5 : Int32} {v5' : Int} (hv5 : tI v5 = v5') {v6 : Int32} {v6' : Int} (hv6 : tI v6 = v6') {S : Mem} {S' : MZ} (hS : tz S = S') : Lf tI (f_X12_stakeOf_3B k3 v1 v2 v3 v4 v5 v6 S) = g_X12_stakeOf_3B k3' v1' v2' v3' v4' v5' v6' S' := by
  unfold f_X12_stakeOf_3B g_X12_stakeOf_3B
  exact (Lf_bind (l_X12_stakes hS) (fun q6 => (Lf_if (cI_le rfl hv6) (Lf_some rfl rfl) (Lf_bind (l_X12_ofStake hv6 rfl rfl) (fun q16 => (Lf_if (cJ_eq rfl (pJ_of hv1)) (Lf_bind (l_X12_ofStake hv6 rfl rfl) (fun q29 => (Lf_if (cJ_eq rfl (pJ_of hv2)) (Lf_bind (l_X12_ofStake hv6 rfl rfl) (fun q42 => (Lf_if (cJ_eq rfl (pJ_of hv3)) (Lf_bind (l_X12_ofStake hv6 rfl rfl) (fun q55 => (Lf_if (cJ_eq rfl (pJ_of hv4)) (Lf_bind (l_X12_ofStake hv6 rfl rfl) (fun q69 => (Lf_if (cJ_eq rfl (pJ_of hv5)) (Lf_some hv6 rfl) (l_X12_stakeOf_82 hk3 hv1 hv2 hv3 hv4 hv5 hv6 rfl)))) (l_X12_stakeOf_82 hk3 hv1 hv2 hv3 hv4 hv5 hv6 rfl)))) (l_X12_stakeOf_82 hk3 hv1 hv2 hv3 hv4 hv5 hv6 rfl)))) (l_X12_stakeOf_82 hk3 hv1 hv2 hv3 hv4 hv5 hv6 rfl)))) (l_X12_stakeOf_82 hk3 hv1 hv2 hv3 hv4 hv5 hv6 rfl)))))))
def g_X12_stakeOf_3 : Nat → Int → Int → Int → Int → Int → Int → MZ → Option (Int × MZ)
  | 0 => fun _ _ _ _ _ _ _ => none
  | n + 1 => g_X12_stakeOf_3B (g_X12_stakeOf_3 n)
theorem l_X12_stakeOf_3 : ∀ (n : Nat) {x0 : Int32} {x1 : Int32} {x2 : Int32} {x3 : Int32} {x4 : Int32} {x5 : Int32} {x6 : Mem} {y0 : Int} {y1 : Int} {y2 : Int} {y3 : Int} {y4 : Int} {y5 : Int} {y6 : MZ}, tI x0 = y0 → tI x1 = y1 → tI x2 = y2 → tI x3 = y3 → tI x4 = y4 → tI x5 = y5 → tz x6 = y6 → Lf tI (f_X12_stakeOf_3 n x0 x1 x2 x3 x4 x5 x6) = g_X12_stakeOf_3 n y0 y1 y2 y3 y4 y5 y6
  | 0, _, _, _, _, _, _, _, _, _, _, _, _, _, _, _, _, _, _, _, _, _ => rfl
  | n + 1, _, _, _, _, _, _, _, _, _, _, _, _, _, _, e0, e1, e2, e3, e4, e5, e6 => l_X12_stakeOf_3B (fun de0 de1 de2 de3 de4 de5 de6 => l_X12_stakeOf_3 n de0 de1 de2 de3 de4 de5 de6) e0 e1 e2 e3 e4 e5 e6
def g_X12_stakeOf (p1 : Int) (p2 : Int) (p3 : Int) (p4 : Int) (p5 : Int) (S : MZ) : Option (Int × MZ) := (g_X12_stakeOf_3 100000 p1 p2 p3 p4 p5 0 S)
theorem l_X12_stakeOf {p1 : Int32} {p1' : Int} (hp1 : tI p1 = p1') {p2 : Int32} {p2' : Int} (hp2 : tI p2 = p2') {p3 : Int32} {p3' : Int} (hp3 : tI p3 = p3') {p4 : Int32} {p4' : Int} (hp4 : tI p4 = p4') {p5 : Int32} {p5' : Int} (hp5 : tI p5 = p5') {S : Mem} {S' : MZ} (hS : tz S = S') : Lf tI (f_X12_stakeOf p1 p2 p3 p4 p5 S) = g_X12_stakeOf p1' p2' p3' p4' p5' S' := by
  unfold f_X12_stakeOf g_X12_stakeOf
  exact (l_X12_stakeOf_3 100000 hp1 hp2 hp3 hp4 hp5 rfl hS)
def g_X12_areTicks_60 (s0 : Int) (S : MZ) : Option (Int × MZ) := (if (s0 = 0 ∨ s0 = 1) then (some (s0, S)) else none)
theorem l_X12_areTicks_60 {s0 : Int32} {s0' : Int} (hs0 : tI s0 = s0') {S : Mem} {S' : MZ} (hS : tz S = S') : Lf tI (f_X12_areTicks_60 s0 S) = g_X12_areTicks_60 s0' S' := by
  unfold f_X12_areTicks_60 g_X12_areTicks_60
  exact (Lf_if (c_isB hs0) (Lf_some hs0 hS) rfl)
def g_X12_areTicks_59 (S : MZ) : Option (Int × MZ) := (g_X12_areTicks_60 0 S)
theorem l_X12_areTicks_59 {S : Mem} {S' : MZ} (hS : tz S = S') : Lf tI (f_X12_areTicks_59 S) = g_X12_areTicks_59 S' := by
  unfold f_X12_areTicks_59 g_X12_areTicks_59
  exact (l_X12_areTicks_60 rfl hS)
def g_X12_areTicks_12 (v2 : Int) (v3 : Int) (v4 : Int) (S : MZ) : Option (Int × MZ) := ((g_X12_isIn v2 0 40 S).bind fun q18 => (if q18.1 = 0 then (g_X12_areTicks_59 q18.2) else ((g_X12_isIn v3 0 40 q18.2).bind fun q30 => (if q30.1 = 0 then (g_X12_areTicks_59 q30.2) else (if v3 ≤ v2 then (g_X12_areTicks_59 q30.2) else (if v4 = 0 then none else (if (Int.tmod v2 v4) = 0 then (if v4 = 0 then none else (if (Int.tmod v3 v4) = 0 then (g_X12_areTicks_60 1 q30.2) else (g_X12_areTicks_59 q30.2))) else (g_X12_areTicks_59 q30.2))))))))
theorem l_X12_areTicks_12 {v2 : Int32} {v2' : Int} (hv2 : tI v2 = v2') {v3 : Int32} {v3' : Int} (hv3 : tI v3 = v3') {v4 : Int32} {v4' : Int} (hv4 : tI v4 = v4') {S : Mem} {S' : MZ} (hS : tz S = S') : Lf tI (f_X12_areTicks_12 v2 v3 v4 S) = g_X12_areTicks_12 v2' v3' v4' S' := by
  unfold f_X12_areTicks_12 g_X12_areTicks_12
  exact (Lf_bind (l_X12_isIn (pJ_of hv2) rfl rfl hS) (fun q18 => (Lf_if (cI_eq rfl rfl) (l_X12_areTicks_59 rfl) (Lf_bind (l_X12_isIn (pJ_of hv3) rfl rfl rfl) (fun q30 => (Lf_if (cI_eq rfl rfl) (l_X12_areTicks_59 rfl) (Lf_if (cI_le hv3 hv2) (l_X12_areTicks_59 rfl) (Lf_if (cI_eq hv4 rfl) rfl (Lf_if (cI_eq (pI_mod hv2 hv4) rfl) (Lf_if (cI_eq hv4 rfl) rfl (Lf_if (cI_eq (pI_mod hv3 hv4) rfl) (l_X12_areTicks_60 rfl rfl) (l_X12_areTicks_59 rfl))) (l_X12_areTicks_59 rfl))))))))))
def g_X12_areTicks (p1 : Int) (p2 : Int) (p3 : Int) (S : MZ) : Option (Int × MZ) := (if (0 ≤ (w32 ((w32 (5 * p1)) + 4)) ∧ (w32 ((w32 (5 * p1)) + 4)) < ((25 : Nat) : Int)) then (g_X12_areTicks_12 p2 p3 (zI S 22 ((w32 ((w32 (5 * p1)) + 4))).toNat) S) else none)
theorem l_X12_areTicks {p1 : Int32} {p1' : Int} (hp1 : tI p1 = p1') {p2 : Int32} {p2' : Int} (hp2 : tI p2 = p2') {p3 : Int32} {p3' : Int} (hp3 : tI p3 = p3') {S : Mem} {S' : MZ} (hS : tz S = S') : Lf tI (f_X12_areTicks p1 p2 p3 S) = g_X12_areTicks p1' p2' p3' S' := by
  unfold f_X12_areTicks g_X12_areTicks
  exact (Lf_if (c_inb (pI_add (pI_mul rfl hp1) rfl) rfl) (l_X12_areTicks_12 hp2 hp3 (pI_g hS rfl (pN_of (pI_add (pI_mul rfl hp1) rfl))) hS) rfl)
def g_X12_adds_53 (S : MZ) : Option (Int × MZ) := (some ((-1), S))
theorem l_X12_adds_53 {S : Mem} {S' : MZ} (hS : tz S = S') : Lf tI (f_X12_adds_53 S) = g_X12_adds_53 S' := by
  unfold f_X12_adds_53 g_X12_adds_53
  exact (Lf_some rfl hS)
def g_X12_adds_103 (S : MZ) : Option (Int × MZ) := (some ((-1), S))
theorem l_X12_adds_103 {S : Mem} {S' : MZ} (hS : tz S = S') : Lf tI (f_X12_adds_103 S) = g_X12_adds_103 S' := by
  unfold f_X12_adds_103 g_X12_adds_103
  exact (Lf_some rfl hS)
def g_X12_adds_274B (k274 : Int → Int → Int → Int → Int → Int → Int → MZ → Option (Int × MZ)) (v1 : Int) (v2 : Int) (v3 : Int) (v4 : Int) (v6 : Int) (v7 : Int) (v8 : Int) (S : MZ) : Option (Int × MZ) := (if 2 ≤ v8 then (some (v7, S)) else ((g_X12_liesIn v2 v3 v4 v6 v8 1 S).bind fun q296 => ((g_X12_goesOut v2 v1 v8 (w64 (-q296.1)) q296.2).bind fun q300 => (k274 v1 v2 v3 v4 v6 v7 (w32 (v8 + 1)) q300.2))))
theorem l_X12_adds_274B {k274 : Int32 → Int32 → Int32 → Int32 → Int32 → Int32 → Int32 → Mem → Option (Int32 × Mem)} {k274' : Int → Int → Int → Int → Int → Int → Int → MZ → Option (Int × MZ)} (hk274 : ∀ {x0 : Int32} {x1 : Int32} {x2 : Int32} {x3 : Int32} {x4 : Int32} {x5 : Int32} {x6 : Int32} {x7 : Mem} {y0 : Int} {y1 : Int} {y2 : Int} {y3 : Int} {y4 : Int} {y5 : Int} {y6 : Int} {y7 : MZ}, tI x0 = y0 → tI x1 = y1 → tI x2 = y2 → tI x3 = y3 → tI x4 = y4 → tI x5 = y5 → tI x6 = y6 → tz x7 = y7 → Lf tI (k274 x0 x1 x2 x3 x4 x5 x6 x7) = k274' y0 y1 y2 y3 y4 y5 y6 y7) {v1 : Int32} {v1' : Int} (hv1 : tI v1 = v1') {v2 : Int32} {v2' : Int} (hv2 : tI v2 = v2') {v3 : Int32} {v3' : Int} (hv3 : tI v3 = v3') {v4 : Int32} {v4' : Int} (hv4 : tI v4 = v4') {v6 : Int32} {v6' : Int} (hv6 : tI v6 = v6') {v7 : Int32} {v7' : Int} (hv7 : tI v7 = v7') {v8 : Int32} {v8' : Int} (hv8 : tI v8 = v8') {S : Mem} {S' : MZ} (hS : tz S = S') : Lf tI (f_X12_adds_274B k274 v1 v2 v3 v4 v6 v7 v8 S) = g_X12_adds_274B k274' v1' v2' v3' v4' v6' v7' v8' S' := by
  unfold f_X12_adds_274B g_X12_adds_274B
  exact (Lf_if (cI_le rfl hv8) (Lf_some hv7 hS) (Lf_bind (l_X12_liesIn hv2 hv3 hv4 (pJ_of hv6) hv8 rfl hS) (fun q296 => (Lf_bind (l_X12_goesOut hv2 hv1 hv8 (pJ_neg rfl) rfl) (fun q300 => (hk274 hv1 hv2 hv3 hv4 hv6 hv7 (pI_add hv8 rfl) rfl))))))
def g_X12_adds_274 : Nat → Int → Int → Int → Int → Int → Int → Int → MZ → Option (Int × MZ)
  | 0 => fun _ _ _ _ _ _ _ _ => none
  | n + 1 => g_X12_adds_274B (g_X12_adds_274 n)
theorem l_X12_adds_274 : ∀ (n : Nat) {x0 : Int32} {x1 : Int32} {x2 : Int32} {x3 : Int32} {x4 : Int32} {x5 : Int32} {x6 : Int32} {x7 : Mem} {y0 : Int} {y1 : Int} {y2 : Int} {y3 : Int} {y4 : Int} {y5 : Int} {y6 : Int} {y7 : MZ}, tI x0 = y0 → tI x1 = y1 → tI x2 = y2 → tI x3 = y3 → tI x4 = y4 → tI x5 = y5 → tI x6 = y6 → tz x7 = y7 → Lf tI (f_X12_adds_274 n x0 x1 x2 x3 x4 x5 x6 x7) = g_X12_adds_274 n y0 y1 y2 y3 y4 y5 y6 y7
  | 0, _, _, _, _, _, _, _, _, _, _, _, _, _, _, _, _, _, _, _, _, _, _, _, _ => rfl
  | n + 1, _, _, _, _, _, _, _, _, _, _, _, _, _, _, _, _, e0, e1, e2, e3, e4, e5, e6, e7 => l_X12_adds_274B (fun de0 de1 de2 de3 de4 de5 de6 de7 => l_X12_adds_274 n de0 de1 de2 de3 de4 de5 de6 de7) e0 e1 e2 e3 e4 e5 e6 e7
def g_X12_adds_247 (v1 : Int) (v2 : Int) (v3 : Int) (v4 : Int) (v6 : Int) (v7 : Int) (S : MZ) : Option (Int × MZ) := ((g_X12_settles v7 S).bind fun q250 => ((g_X12_ofStake v7 5 q250.2).bind fun q261 => ((g_X12_setStake v7 5 (w64 (q261.1 + v6)) q261.2).bind fun q268 => (g_X12_adds_274 100000 v1 v2 v3 v4 v6 v7 0 q268.2))))
theorem l_X12_adds_247 {v1 : Int32} {v1' : Int} (hv1 : tI v1 = v1') {v2 : Int32} {v2' : Int} (hv2 : tI v2 = v2') {v3 : Int32} {v3' : Int} (hv3 : tI v3 = v3') {v4 : Int32} {v4' : Int} (hv4 : tI v4 = v4') {v6 : Int32} {v6' : Int} (hv6 : tI v6 = v6') {v7 : Int32} {v7' : Int} (hv7 : tI v7 = v7') {S : Mem} {S' : MZ} (hS : tz S = S') : Lf tI (f_X12_adds_247 v1 v2 v3 v4 v6 v7 S) = g_X12_adds_247 v1' v2' v3' v4' v6' v7' S' := by
  unfold f_X12_adds_247 g_X12_adds_247
  exact (Lf_bind (l_X12_settles hv7 hS) (fun q250 => (Lf_bind (l_X12_ofStake hv7 rfl rfl) (fun q261 => (Lf_bind (l_X12_setStake hv7 rfl (pJ_add rfl (pJ_of hv6)) rfl) (fun q268 => (l_X12_adds_274 100000 hv1 hv2 hv3 hv4 hv6 hv7 rfl rfl)))))))
def g_X12_adds_178B (k178 : Int → Int → Int → Int → Int → Int → Int → Int → MZ → Option (Int × MZ)) (v1 : Int) (v2 : Int) (v3 : Int) (v4 : Int) (v5 : Int) (v6 : Int) (v7 : Int) (v8 : Int) (S : MZ) : Option (Int × MZ) := (if 10 ≤ v8 then ((g_X12_setStake v7 0 v1 S).bind fun q206 => ((g_X12_setStake v7 1 v2 q206.2).bind fun q215 => ((g_X12_setStake v7 2 v3 q215.2).bind fun q224 => ((g_X12_setStake v7 3 v4 q224.2).bind fun q234 => ((g_X12_setStake v7 4 v5 q234.2).bind fun q244 => (g_X12_adds_247 v1 v2 v3 v4 v6 v7 q244.2)))))) else ((g_X12_setStake v7 v8 0 S).bind fun q191 => (k178 v1 v2 v3 v4 v5 v6 v7 (w32 (v8 + 1)) q191.2)))
theorem l_X12_adds_178B {k178 : Int32 → Int32 → Int32 → Int32 → Int32 → Int32 → Int32 → Int32 → Mem → Option (Int32 × Mem)} {k178' : Int → Int → Int → Int → Int → Int → Int → Int → MZ → Option (Int × MZ)} (hk178 : ∀ {x0 : Int32} {x1 : Int32} {x2 : Int32} {x3 : Int32} {x4 : Int32} {x5 : Int32} {x6 : Int32} {x7 : Int32} {x8 : Mem} {y0 : Int} {y1 : Int} {y2 : Int} {y3 : Int} {y4 : Int} {y5 : Int} {y6 : Int} {y7 : Int} {y8 : MZ}, tI x0 = y0 → tI x1 = y1 → tI x2 = y2 → tI x3 = y3 → tI x4 = y4 → tI x5 = y5 → tI x6 = y6 → tI x7 = y7 → tz x8 = y8 → Lf tI (k178 x0 x1 x2 x3 x4 x5 x6 x7 x8) = k178' y0 y1 y2 y3 y4 y5 y6 y7 y8) {v1 : Int32} {v1' : Int} (hv1 : tI v1 = v1') {v2 : Int32} {v2' : Int} (hv2 : tI v2 = v2') {v3 : Int32} {v3' : Int} (hv3 : tI v3 = v3') {v4 : Int32} {v4' : Int} (hv4 : tI v4 = v4') {v5 : Int32} {v5' : Int} (hv5 : tI v5 = v5') {v6 : Int32} {v6' : Int} (hv6 : tI v6 = v6') {v7 : Int32} {v7' : Int} (hv7 : tI v7 = v7') {v8 : Int32} {v8' : Int} (hv8 : tI v8 = v8') {S : Mem} {S' : MZ} (hS : tz S = S') : Lf tI (f_X12_adds_178B k178 v1 v2 v3 v4 v5 v6 v7 v8 S) = g_X12_adds_178B k178' v1' v2' v3' v4' v5' v6' v7' v8' S' := by
  unfold f_X12_adds_178B g_X12_adds_178B
  exact (Lf_if (cI_le rfl hv8) (Lf_bind (l_X12_setStake hv7 rfl (pJ_of hv1) hS) (fun q206 => (Lf_bind (l_X12_setStake hv7 rfl (pJ_of hv2) rfl) (fun q215 => (Lf_bind (l_X12_setStake hv7 rfl (pJ_of hv3) rfl) (fun q224 => (Lf_bind (l_X12_setStake hv7 rfl (pJ_of hv4) rfl) (fun q234 => (Lf_bind (l_X12_setStake hv7 rfl (pJ_of hv5) rfl) (fun q244 => (l_X12_adds_247 hv1 hv2 hv3 hv4 hv6 hv7 rfl))))))))))) (Lf_bind (l_X12_setStake hv7 hv8 rfl hS) (fun q191 => (hk178 hv1 hv2 hv3 hv4 hv5 hv6 hv7 (pI_add hv8 rfl) rfl))))
def g_X12_adds_178 : Nat → Int → Int → Int → Int → Int → Int → Int → Int → MZ → Option (Int × MZ)
  | 0 => fun _ _ _ _ _ _ _ _ _ => none
  | n + 1 => g_X12_adds_178B (g_X12_adds_178 n)
theorem l_X12_adds_178 : ∀ (n : Nat) {x0 : Int32} {x1 : Int32} {x2 : Int32} {x3 : Int32} {x4 : Int32} {x5 : Int32} {x6 : Int32} {x7 : Int32} {x8 : Mem} {y0 : Int} {y1 : Int} {y2 : Int} {y3 : Int} {y4 : Int} {y5 : Int} {y6 : Int} {y7 : Int} {y8 : MZ}, tI x0 = y0 → tI x1 = y1 → tI x2 = y2 → tI x3 = y3 → tI x4 = y4 → tI x5 = y5 → tI x6 = y6 → tI x7 = y7 → tz x8 = y8 → Lf tI (f_X12_adds_178 n x0 x1 x2 x3 x4 x5 x6 x7 x8) = g_X12_adds_178 n y0 y1 y2 y3 y4 y5 y6 y7 y8
  | 0, _, _, _, _, _, _, _, _, _, _, _, _, _, _, _, _, _, _, _, _, _, _, _, _, _, _, _ => rfl
  | n + 1, _, _, _, _, _, _, _, _, _, _, _, _, _, _, _, _, _, _, e0, e1, e2, e3, e4, e5, e6, e7, e8 => l_X12_adds_178B (fun de0 de1 de2 de3 de4 de5 de6 de7 de8 => l_X12_adds_178 n de0 de1 de2 de3 de4 de5 de6 de7 de8) e0 e1 e2 e3 e4 e5 e6 e7 e8
def g_X12_adds_108B (k108 : Int → Int → Int → Int → Int → Int → Int → Int → MZ → Option (Int × MZ)) (v1 : Int) (v2 : Int) (v3 : Int) (v4 : Int) (v5 : Int) (v6 : Int) (v7 : Int) (v8 : Int) (S : MZ) : Option (Int × MZ) := (if 2 ≤ v8 then (if 0 ≤ v7 then (g_X12_adds_247 v1 v2 v3 v4 v6 v7 S) else ((g_X12_stakes S).bind fun q158 => (g_X12_adds_178 100000 v1 v2 v3 v4 v5 v6 q158.1 0 (uL q158.2 23 137 (w64 ((zL q158.2 23 137) + 1)))))) else ((g_X12_liesIn v2 v3 v4 v6 v8 1 S).bind fun q125 => ((g_X12_thingOf v2 v8 q125.2).bind fun q134 => ((g_X12_inPurse v1 q134.1 q134.2).bind fun q137 => (if q125.1 ≤ q137.1 then (k108 v1 v2 v3 v4 v5 v6 v7 (w32 (v8 + 1)) q137.2) else (some ((-1), q137.2)))))))
theorem l_X12_adds_108B {k108 : Int32 → Int32 → Int32 → Int32 → Int32 → Int32 → Int32 → Int32 → Mem → Option (Int32 × Mem)} {k108' : Int → Int → Int → Int → Int → Int → Int → Int → MZ → Option (Int × MZ)} (hk108 : ∀ {x0 : Int32} {x1 : Int32} {x2 : Int32} {x3 : Int32} {x4 : Int32} {x5 : Int32} {x6 : Int32} {x7 : Int32} {x8 : Mem} {y0 : Int} {y1 : Int} {y2 : Int} {y3 : Int} {y4 : Int} {y5 : Int} {y6 : Int} {y7 : Int} {y8 : MZ}, tI x0 = y0 → tI x1 = y1 → tI x2 = y2 → tI x3 = y3 → tI x4 = y4 → tI x5 = y5 → tI x6 = y6 → tI x7 = y7 → tz x8 = y8 → Lf tI (k108 x0 x1 x2 x3 x4 x5 x6 x7 x8) = k108' y0 y1 y2 y3 y4 y5 y6 y7 y8) {v1 : Int32} {v1' : Int} (hv1 : tI v1 = v1') {v2 : Int32} {v2' : Int} (hv2 : tI v2 = v2') {v3 : Int32} {v3' : Int} (hv3 : tI v3 = v3') {v4 : Int32} {v4' : Int} (hv4 : tI v4 = v4') {v5 : Int32} {v5' : Int} (hv5 : tI v5 = v5') {v6 : Int32} {v6' : Int} (hv6 : tI v6 = v6') {v7 : Int32} {v7' : Int} (hv7 : tI v7 = v7') {v8 : Int32} {v8' : Int} (hv8 : tI v8 = v8') {S : Mem} {S' : MZ} (hS : tz S = S') : Lf tI (f_X12_adds_108B k108 v1 v2 v3 v4 v5 v6 v7 v8 S) = g_X12_adds_108B k108' v1' v2' v3' v4' v5' v6' v7' v8' S' := by
  unfold f_X12_adds_108B g_X12_adds_108B
  exact (Lf_if (cI_le rfl hv8) (Lf_if (cI_le rfl hv7) (l_X12_adds_247 hv1 hv2 hv3 hv4 hv6 hv7 hS) (Lf_bind (l_X12_stakes hS) (fun q158 => (l_X12_adds_178 100000 hv1 hv2 hv3 hv4 hv5 hv6 rfl rfl (pM_L rfl rfl (pN_of (a' := 137) rfl) (pJ_add (pJ_g rfl rfl (pN_of (a' := 137) rfl)) rfl)))))) (Lf_bind (l_X12_liesIn hv2 hv3 hv4 (pJ_of hv6) hv8 rfl hS) (fun q125 => (Lf_bind (l_X12_thingOf hv2 hv8 rfl) (fun q134 => (Lf_bind (l_X12_inPurse hv1 rfl rfl) (fun q137 => (Lf_if (cJ_le rfl rfl) (hk108 hv1 hv2 hv3 hv4 hv5 hv6 hv7 (pI_add hv8 rfl) rfl) (Lf_some rfl rfl)))))))))
def g_X12_adds_108 : Nat → Int → Int → Int → Int → Int → Int → Int → Int → MZ → Option (Int × MZ)
  | 0 => fun _ _ _ _ _ _ _ _ _ => none
  | n + 1 => g_X12_adds_108B (g_X12_adds_108 n)
theorem l_X12_adds_108 : ∀ (n : Nat) {x0 : Int32} {x1 : Int32} {x2 : Int32} {x3 : Int32} {x4 : Int32} {x5 : Int32} {x6 : Int32} {x7 : Int32} {x8 : Mem} {y0 : Int} {y1 : Int} {y2 : Int} {y3 : Int} {y4 : Int} {y5 : Int} {y6 : Int} {y7 : Int} {y8 : MZ}, tI x0 = y0 → tI x1 = y1 → tI x2 = y2 → tI x3 = y3 → tI x4 = y4 → tI x5 = y5 → tI x6 = y6 → tI x7 = y7 → tz x8 = y8 → Lf tI (f_X12_adds_108 n x0 x1 x2 x3 x4 x5 x6 x7 x8) = g_X12_adds_108 n y0 y1 y2 y3 y4 y5 y6 y7 y8
  | 0, _, _, _, _, _, _, _, _, _, _, _, _, _, _, _, _, _, _, _, _, _, _, _, _, _, _, _ => rfl
  | n + 1, _, _, _, _, _, _, _, _, _, _, _, _, _, _, _, _, _, _, e0, e1, e2, e3, e4, e5, e6, e7, e8 => l_X12_adds_108B (fun de0 de1 de2 de3 de4 de5 de6 de7 de8 => l_X12_adds_108 n de0 de1 de2 de3 de4 de5 de6 de7 de8) e0 e1 e2 e3 e4 e5 e6 e7 e8
