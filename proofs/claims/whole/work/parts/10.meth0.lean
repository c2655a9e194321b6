theorem d_X0_rootAt_0 : decode cX0_rootAt 0 = .ok (.iload_n 0, 1) := by decide +kernel
theorem d_X0_rootAt_1 : decode cX0_rootAt 1 = .ok (.ifCond .ge 7, 3) := by decide +kernel
theorem d_X0_rootAt_4 : decode cX0_rootAt 4 = .ok (.iconst 0, 1) := by decide +kernel
theorem d_X0_rootAt_5 : decode cX0_rootAt 5 = .ok (.goto 4, 3) := by decide +kernel
theorem d_X0_rootAt_8 : decode cX0_rootAt 8 = .ok (.iload_n 0, 1) := by decide +kernel
theorem d_X0_rootAt_9 : decode cX0_rootAt 9 = .ok (.istore_n 1, 1) := by decide +kernel
theorem d_X0_rootAt_10 : decode cX0_rootAt 10 = .ok (.iload_n 1, 1) := by decide +kernel
theorem d_X0_rootAt_11 : decode cX0_rootAt 11 = .ok (.getstatic 9, 3) := by decide +kernel
theorem d_X0_rootAt_14 : decode cX0_rootAt 14 = .ok (.arraylength, 1) := by decide +kernel
theorem d_X0_rootAt_15 : decode cX0_rootAt 15 = .ok (.if_icmp .ge 11, 3) := by decide +kernel
theorem d_X0_rootAt_18 : decode cX0_rootAt 18 = .ok (.getstatic 9, 3) := by decide +kernel
theorem d_X0_rootAt_21 : decode cX0_rootAt 21 = .ok (.iload_n 1, 1) := by decide +kernel
theorem d_X0_rootAt_22 : decode cX0_rootAt 22 = .ok (.iaload, 1) := by decide +kernel
theorem d_X0_rootAt_23 : decode cX0_rootAt 23 = .ok (.goto 13, 3) := by decide +kernel
theorem d_X0_rootAt_26 : decode cX0_rootAt 26 = .ok (.getstatic 9, 3) := by decide +kernel
theorem d_X0_rootAt_29 : decode cX0_rootAt 29 = .ok (.getstatic 9, 3) := by decide +kernel
theorem d_X0_rootAt_32 : decode cX0_rootAt 32 = .ok (.arraylength, 1) := by decide +kernel
theorem d_X0_rootAt_33 : decode cX0_rootAt 33 = .ok (.iconst 1, 1) := by decide +kernel
theorem d_X0_rootAt_34 : decode cX0_rootAt 34 = .ok (.isub, 1) := by decide +kernel
theorem d_X0_rootAt_35 : decode cX0_rootAt 35 = .ok (.iaload, 1) := by decide +kernel
theorem d_X0_rootAt_36 : decode cX0_rootAt 36 = .ok (.ireturn, 1) := by decide +kernel
def f_X0_rootAt_36 (s0 : Int32) (S : Mem) : Option (Int32 × Mem) := (some (s0, S))
set_option maxRecDepth 20000 in
theorem t_X0_rootAt_36 {X : MC} {Γ : GG} (C : CX X Γ cX0_rootAt 2 "TickPools$Curve" 0 0) (hr : X.2.2.2.2.2.2.2.2.1.sig.returnType = some .int) {q : Int32 × Mem} (s0 : Int32) (S : Mem) (hf : f_X0_rootAt_36 s0 S = some q) : ZZ X Γ 2 (QQ X Γ (some (aI q.1)) q.2) S 36 [] [aI s0] := by
  unfold f_X0_rootAt_36 at hf
  exact r_i C hr rfl d_X0_rootAt_36 hf
def f_X0_rootAt_9 (s0 : Int32) (S : Mem) : Option (Int32 × Mem) := (if 41 ≤ s0 then (if inb (41 - 1) 41 = true then (f_X0_rootAt_36  (rootsf (((41 - 1) : Int32).toNatClampNeg)) S) else none) else (if inb s0 41 = true then (f_X0_rootAt_36  (rootsf ((s0 : Int32).toNatClampNeg)) S) else none))
set_option maxRecDepth 20000 in
theorem t_X0_rootAt_9 {X : MC} {Γ : GG} (C : CX X Γ cX0_rootAt 2 "TickPools$Curve" 0 0) (hr : X.2.2.2.2.2.2.2.2.1.sig.returnType = some .int) {q : Int32 × Mem} (s0 : Int32) (S : Mem) (hf : f_X0_rootAt_9 s0 S = some q) : ZZ X Γ 2 (QQ X Γ (some (aI q.1)) q.2) S 9 [] [aI s0] := by
  unfold f_X0_rootAt_9 at hf
  refine z_istore_n (lv' := [(1, aI s0)]) C d_X0_rootAt_9 (by decide) rfl ?_
  refine z_iload_n (j := 0) C d_X0_rootAt_10 rfl ?_
  refine z_roots C tw_631 d_X0_rootAt_11 ?_
  refine z_rootsLen C d_X0_rootAt_14 ?_
  refine z_icmp_ge (tgt := 26) C d_X0_rootAt_15 (by decide) hf (fun c15 hf => ?_) (fun c15 hf => ?_)
  · refine z_roots C tw_631 d_X0_rootAt_26 ?_
    refine z_roots C tw_631 d_X0_rootAt_29 ?_
    refine z_rootsLen C d_X0_rootAt_32 ?_
    refine z_iconst (v := 1) C d_X0_rootAt_33 (by decide) ?_
    refine z_isub C d_X0_rootAt_34 ?_
    obtain ⟨hi35_0, hf⟩ := gd hf
    refine z_rootsAt C hi35_0 d_X0_rootAt_35 ?_
    exact z_sub [] rfl (t_X0_rootAt_36 C hr  _ _ hf)
  · refine z_roots C tw_631 d_X0_rootAt_18 ?_
    refine z_iload_n (j := 0) C d_X0_rootAt_21 rfl ?_
    obtain ⟨hi22_0, hf⟩ := gd hf
    refine z_rootsAt C hi22_0 d_X0_rootAt_22 ?_
    refine z_goto (tgt := 36) C d_X0_rootAt_23 (by decide) ?_
    exact z_sub [] rfl (t_X0_rootAt_36 C hr  _ _ hf)
/-- TickPools$Curve.rootAt(I)I -/
def f_X0_rootAt (p0 : Int32) (S : Mem) : Option (Int32 × Mem) := (if 0 ≤ p0 then (f_X0_rootAt_9  p0 S) else (f_X0_rootAt_9  0 S))
set_option maxRecDepth 20000 in
theorem c_X0_rootAt {l : Launch} {Γ : GG} (hI : Inj Γ) {p0 : Int32} {S : Mem} {q : Int32 × Mem} (hf : f_X0_rootAt p0 S = some q) : MM l Γ yX0_rootAt cX0_rootAt 2 (some .int) 0 0 [aI p0] S (some (aI q.1)) q.2 := by
  refine met_of hI "TickPools$Curve" rfl (by decide +kernel) (Nat.le_of_ble_eq_true rfl) (fun X hX C hr => ?_)
  unfold f_X0_rootAt at hf
  show ZZ X Γ 2 _ S 0 [(0, aI p0)] []
  refine z_iload_n (j := 0) C d_X0_rootAt_0 rfl ?_
  refine z_if_ge (tgt := 8) C d_X0_rootAt_1 (by decide) hf (fun c1 hf => ?_) (fun c1 hf => ?_)
  · refine z_iload_n (j := 0) C d_X0_rootAt_8 rfl ?_
    exact z_sub [] rfl (t_X0_rootAt_9 C hr  _ _ hf)
  · refine z_iconst (v := 0) C d_X0_rootAt_4 (by decide) ?_
    refine z_goto (tgt := 9) C d_X0_rootAt_5 (by decide) ?_
    exact z_sub [] rfl (t_X0_rootAt_9 C hr  _ _ hf)
theorem d_X0_zoneOf_0 : decode cX0_zoneOf 0 = .ok (.iconst 0, 1) := by decide +kernel
theorem d_X0_zoneOf_1 : decode cX0_zoneOf 1 = .ok (.istore_n 1, 1) := by decide +kernel
theorem d_X0_zoneOf_2 : decode cX0_zoneOf 2 = .ok (.iload_n 1, 1) := by decide +kernel
theorem d_X0_zoneOf_3 : decode cX0_zoneOf 3 = .ok (.iconst 1, 1) := by decide +kernel
theorem d_X0_zoneOf_4 : decode cX0_zoneOf 4 = .ok (.iadd, 1) := by decide +kernel
theorem d_X0_zoneOf_5 : decode cX0_zoneOf 5 = .ok (.bipush 40, 2) := by decide +kernel
theorem d_X0_zoneOf_7 : decode cX0_zoneOf 7 = .ok (.if_icmp .ge 19, 3) := by decide +kernel
theorem d_X0_zoneOf_10 : decode cX0_zoneOf 10 = .ok (.iload_n 1, 1) := by decide +kernel
theorem d_X0_zoneOf_11 : decode cX0_zoneOf 11 = .ok (.iconst 1, 1) := by decide +kernel
theorem d_X0_zoneOf_12 : decode cX0_zoneOf 12 = .ok (.iadd, 1) := by decide +kernel
theorem d_X0_zoneOf_13 : decode cX0_zoneOf 13 = .ok (.invokestatic 15, 3) := by decide +kernel
theorem d_X0_zoneOf_16 : decode cX0_zoneOf 16 = .ok (.iload_n 0, 1) := by decide +kernel
theorem d_X0_zoneOf_17 : decode cX0_zoneOf 17 = .ok (.if_icmp .gt 9, 3) := by decide +kernel
theorem d_X0_zoneOf_20 : decode cX0_zoneOf 20 = .ok (.iinc 1 1, 3) := by decide +kernel
theorem d_X0_zoneOf_23 : decode cX0_zoneOf 23 = .ok (.goto (-21), 3) := by decide +kernel
theorem d_X0_zoneOf_26 : decode cX0_zoneOf 26 = .ok (.iload_n 1, 1) := by decide +kernel
theorem d_X0_zoneOf_27 : decode cX0_zoneOf 27 = .ok (.ireturn, 1) := by decide +kernel
def f_X0_zoneOf_26 (v1 : Int32) (S : Mem) : Option (Int32 × Mem) := (some (v1, S))
set_option maxRecDepth 20000 in
theorem t_X0_zoneOf_26 {X : MC} {Γ : GG} (C : CX X Γ cX0_zoneOf 2 "TickPools$Curve" 1 21) (hr : X.2.2.2.2.2.2.2.2.1.sig.returnType = some .int) {q : Int32 × Mem} (v1 : Int32) (S : Mem) (hf : f_X0_zoneOf_26 v1 S = some q) : ZZ X Γ 2 (QQ X Γ (some (aI q.1)) q.2) S 26 [(1, aI v1)] [] := by
  unfold f_X0_zoneOf_26 at hf
  refine z_iload_n (j := 0) C d_X0_zoneOf_26 rfl ?_
  exact r_i C hr rfl d_X0_zoneOf_27 hf
def f_X0_zoneOf_2B (k2 : Int32 → Int32 → Mem → Option (Int32 × Mem)) (v0 : Int32) (v1 : Int32) (S : Mem) : Option (Int32 × Mem) := (if 40 ≤ (v1 + 1) then (f_X0_zoneOf_26  v1 S) else ((f_X0_rootAt (v1 + 1) S).bind fun q13 => (if v0 < q13.1 then (f_X0_zoneOf_26  v1 q13.2) else (k2 v0 (v1 + 1) q13.2))))
set_option maxRecDepth 20000 in
theorem t_X0_zoneOf_2B {X : MC} {Γ : GG} (C : CX X Γ cX0_zoneOf 2 "TickPools$Curve" 1 21) (hr : X.2.2.2.2.2.2.2.2.1.sig.returnType = some .int) {k2 : Int32 → Int32 → Mem → Option (Int32 × Mem)} {q : Int32 × Mem} (hk2 : ∀ (v0 : Int32) (v1 : Int32) (S : Mem), k2 v0 v1 S = some q → ZZ X Γ 2 (QQ X Γ (some (aI q.1)) q.2) S 2 [(0, aI v0), (1, aI v1)] []) (v0 : Int32) (v1 : Int32) (S : Mem) (hf : f_X0_zoneOf_2B k2 v0 v1 S = some q) : ZZ X Γ 2 (QQ X Γ (some (aI q.1)) q.2) S 2 [(0, aI v0), (1, aI v1)] [] := by
  unfold f_X0_zoneOf_2B at hf
  refine z_iload_n (j := 1) C d_X0_zoneOf_2 rfl ?_
  refine z_iconst (v := 1) C d_X0_zoneOf_3 (by decide) ?_
  refine z_iadd C d_X0_zoneOf_4 ?_
  refine z_bipush (v := 40) C d_X0_zoneOf_5 (by decide) ?_
  refine z_icmp_ge (tgt := 26) C d_X0_zoneOf_7 (by decide) hf (fun c7 hf => ?_) (fun c7 hf => ?_)
  · exact z_sub [1] rfl (t_X0_zoneOf_26 C hr  _ _ hf)
  · refine z_iload_n (j := 1) C d_X0_zoneOf_10 rfl ?_
    refine z_iconst (v := 1) C d_X0_zoneOf_11 (by decide) ?_
    refine z_iadd C d_X0_zoneOf_12 ?_
    obtain ⟨q13, hF, hf⟩ := bd hf
    refine z_callS1 (rest := []) C [aI (v1 + 1)] k_X0_rootAt tw_628 ⟨by decide, by decide⟩ (Nat.le_of_ble_eq_true rfl) d_X0_zoneOf_13 (c_X0_rootAt C.inj hF) rfl ?_
    refine z_iload_n (j := 0) C d_X0_zoneOf_16 rfl ?_
    refine z_icmp_gt (tgt := 26) C d_X0_zoneOf_17 (by decide) hf (fun c17 hf => ?_) (fun c17 hf => ?_)
    · exact z_sub [1] rfl (t_X0_zoneOf_26 C hr  _ _ hf)
    · refine z_iinc (j := 1) (v := (v1 + 1)) (lv' := [(1, aI (v1 + 1)), (0, aI v0)]) C d_X0_zoneOf_20 rfl rfl (by decide) rfl ?_
      refine z_goto (tgt := 2) C d_X0_zoneOf_23 (by decide) ?_
      exact z_sub [1, 0] rfl (hk2 _ _ _ hf)
def f_X0_zoneOf_2 : Nat → Int32 → Int32 → Mem → Option (Int32 × Mem)
  | 0 => fun _ _ _ => none
  | n + 1 => f_X0_zoneOf_2B (f_X0_zoneOf_2 n)
theorem t_X0_zoneOf_2 {X : MC} {Γ : GG} (C : CX X Γ cX0_zoneOf 2 "TickPools$Curve" 1 21) (hr : X.2.2.2.2.2.2.2.2.1.sig.returnType = some .int) {q : Int32 × Mem} : ∀ (n : Nat) (v0 : Int32) (v1 : Int32) (S : Mem) (hf : f_X0_zoneOf_2 n v0 v1 S = some q), ZZ X Γ 2 (QQ X Γ (some (aI q.1)) q.2) S 2 [(0, aI v0), (1, aI v1)] []
  | 0, _, _, _, hf => nomatch (show (none : Option (Int32 × Mem)) = some q from hf)
  | n + 1, v0, v1, S, hf => t_X0_zoneOf_2B C hr (t_X0_zoneOf_2 C hr n) v0 v1 S hf
/-- TickPools$Curve.zoneOf(I)I -/
def f_X0_zoneOf (p0 : Int32) (S : Mem) : Option (Int32 × Mem) := (f_X0_zoneOf_2  100000 p0 0 S)
set_option maxRecDepth 20000 in
theorem c_X0_zoneOf {l : Launch} {Γ : GG} (hI : Inj Γ) {p0 : Int32} {S : Mem} {q : Int32 × Mem} (hf : f_X0_zoneOf p0 S = some q) : MM l Γ yX0_zoneOf cX0_zoneOf 2 (some .int) 1 21 [aI p0] S (some (aI q.1)) q.2 := by
  refine met_of hI "TickPools$Curve" rfl (by decide +kernel) (Nat.le_of_ble_eq_true rfl) (fun X hX C hr => ?_)
  unfold f_X0_zoneOf at hf
  show ZZ X Γ 2 _ S 0 [(0, aI p0)] []
  refine z_iconst (v := 0) C d_X0_zoneOf_0 (by decide) ?_
  refine z_istore_n (lv' := [(1, aI 0), (0, aI p0)]) C d_X0_zoneOf_1 (by decide) rfl ?_
  exact z_sub [1, 0] rfl (t_X0_zoneOf_2 C hr  100000 _ _ _ hf)
theorem d_X0_startRoot_0 : decode cX0_startRoot 0 = .ok (.iload_n 1, 1) := by decide +kernel
theorem d_X0_startRoot_1 : decode cX0_startRoot 1 = .ok (.iconst 1, 1) := by decide +kernel
theorem d_X0_startRoot_2 : decode cX0_startRoot 2 = .ok (.if_icmp .ge 9, 3) := by decide +kernel
theorem d_X0_startRoot_5 : decode cX0_startRoot 5 = .ok (.ldc2_w 19, 3) := by decide +kernel
theorem d_X0_startRoot_8 : decode cX0_startRoot 8 = .ok (.goto 12, 3) := by decide +kernel
theorem d_X0_startRoot_11 : decode cX0_startRoot 11 = .ok (.ldc2_w 19, 3) := by decide +kernel
theorem d_X0_startRoot_14 : decode cX0_startRoot 14 = .ok (.iload_n 0, 1) := by decide +kernel
theorem d_X0_startRoot_15 : decode cX0_startRoot 15 = .ok (.i2l, 1) := by decide +kernel
theorem d_X0_startRoot_16 : decode cX0_startRoot 16 = .ok (.lmul, 1) := by decide +kernel
theorem d_X0_startRoot_17 : decode cX0_startRoot 17 = .ok (.iload_n 1, 1) := by decide +kernel
theorem d_X0_startRoot_18 : decode cX0_startRoot 18 = .ok (.i2l, 1) := by decide +kernel
theorem d_X0_startRoot_19 : decode cX0_startRoot 19 = .ok (.ldiv, 1) := by decide +kernel
theorem d_X0_startRoot_20 : decode cX0_startRoot 20 = .ok (.lstore_n 2, 1) := by decide +kernel
theorem d_X0_startRoot_21 : decode cX0_startRoot 21 = .ok (.iconst 0, 1) := by decide +kernel
theorem d_X0_startRoot_22 : decode cX0_startRoot 22 = .ok (.invokestatic 15, 3) := by decide +kernel
theorem d_X0_startRoot_25 : decode cX0_startRoot 25 = .ok (.i2l, 1) := by decide +kernel
theorem d_X0_startRoot_26 : decode cX0_startRoot 26 = .ok (.lstore 4, 2) := by decide +kernel
theorem d_X0_startRoot_28 : decode cX0_startRoot 28 = .ok (.bipush 40, 2) := by decide +kernel
theorem d_X0_startRoot_30 : decode cX0_startRoot 30 = .ok (.invokestatic 15, 3) := by decide +kernel
theorem d_X0_startRoot_33 : decode cX0_startRoot 33 = .ok (.i2l, 1) := by decide +kernel
theorem d_X0_startRoot_34 : decode cX0_startRoot 34 = .ok (.lstore 6, 2) := by decide +kernel
theorem d_X0_startRoot_36 : decode cX0_startRoot 36 = .ok (.iconst 0, 1) := by decide +kernel
theorem d_X0_startRoot_37 : decode cX0_startRoot 37 = .ok (.istore 8, 2) := by decide +kernel
theorem d_X0_startRoot_39 : decode cX0_startRoot 39 = .ok (.iload 8, 2) := by decide +kernel
theorem d_X0_startRoot_41 : decode cX0_startRoot 41 = .ok (.bipush 64, 2) := by decide +kernel
theorem d_X0_startRoot_43 : decode cX0_startRoot 43 = .ok (.if_icmp .ge 53, 3) := by decide +kernel
theorem d_X0_startRoot_46 : decode cX0_startRoot 46 = .ok (.lload 4, 2) := by decide +kernel
theorem d_X0_startRoot_48 : decode cX0_startRoot 48 = .ok (.lload 6, 2) := by decide +kernel
theorem d_X0_startRoot_50 : decode cX0_startRoot 50 = .ok (.lcmp, 1) := by decide +kernel
theorem d_X0_startRoot_51 : decode cX0_startRoot 51 = .ok (.ifCond .ge 45, 3) := by decide +kernel
theorem d_X0_startRoot_54 : decode cX0_startRoot 54 = .ok (.lload 4, 2) := by decide +kernel
theorem d_X0_startRoot_56 : decode cX0_startRoot 56 = .ok (.lload 6, 2) := by decide +kernel
theorem d_X0_startRoot_58 : decode cX0_startRoot 58 = .ok (.ladd, 1) := by decide +kernel
theorem d_X0_startRoot_59 : decode cX0_startRoot 59 = .ok (.lconst 1, 1) := by decide +kernel
theorem d_X0_startRoot_60 : decode cX0_startRoot 60 = .ok (.ladd, 1) := by decide +kernel
theorem d_X0_startRoot_61 : decode cX0_startRoot 61 = .ok (.ldc2_w 21, 3) := by decide +kernel
theorem d_X0_startRoot_64 : decode cX0_startRoot 64 = .ok (.ldiv, 1) := by decide +kernel
theorem d_X0_startRoot_65 : decode cX0_startRoot 65 = .ok (.lstore 9, 2) := by decide +kernel
theorem d_X0_startRoot_67 : decode cX0_startRoot 67 = .ok (.lload 9, 2) := by decide +kernel
theorem d_X0_startRoot_69 : decode cX0_startRoot 69 = .ok (.lload 9, 2) := by decide +kernel
theorem d_X0_startRoot_71 : decode cX0_startRoot 71 = .ok (.lmul, 1) := by decide +kernel
theorem d_X0_startRoot_72 : decode cX0_startRoot 72 = .ok (.lload_n 2, 1) := by decide +kernel
theorem d_X0_startRoot_73 : decode cX0_startRoot 73 = .ok (.lcmp, 1) := by decide +kernel
theorem d_X0_startRoot_74 : decode cX0_startRoot 74 = .ok (.ifCond .gt 10, 3) := by decide +kernel
theorem d_X0_startRoot_77 : decode cX0_startRoot 77 = .ok (.lload 9, 2) := by decide +kernel
theorem d_X0_startRoot_79 : decode cX0_startRoot 79 = .ok (.lstore 4, 2) := by decide +kernel
theorem d_X0_startRoot_81 : decode cX0_startRoot 81 = .ok (.goto 9, 3) := by decide +kernel
theorem d_X0_startRoot_84 : decode cX0_startRoot 84 = .ok (.lload 9, 2) := by decide +kernel
theorem d_X0_startRoot_86 : decode cX0_startRoot 86 = .ok (.lconst 1, 1) := by decide +kernel
theorem d_X0_startRoot_87 : decode cX0_startRoot 87 = .ok (.lsub, 1) := by decide +kernel
theorem d_X0_startRoot_88 : decode cX0_startRoot 88 = .ok (.lstore 6, 2) := by decide +kernel
theorem d_X0_startRoot_90 : decode cX0_startRoot 90 = .ok (.iinc 8 1, 3) := by decide +kernel
theorem d_X0_startRoot_93 : decode cX0_startRoot 93 = .ok (.goto (-54), 3) := by decide +kernel
theorem d_X0_startRoot_96 : decode cX0_startRoot 96 = .ok (.lload 4, 2) := by decide +kernel
theorem d_X0_startRoot_98 : decode cX0_startRoot 98 = .ok (.l2i, 1) := by decide +kernel
theorem d_X0_startRoot_99 : decode cX0_startRoot 99 = .ok (.ireturn, 1) := by decide +kernel
def f_X0_startRoot_90 (k39 : Int64 → Int64 → Int64 → Int32 → Mem → Option (Int32 × Mem)) (v2 : Int64) (v4 : Int64) (v6 : Int64) (v8 : Int32) (S : Mem) : Option (Int32 × Mem) := (k39 v2 v4 v6 (v8 + 1) S)
set_option maxRecDepth 20000 in
theorem t_X0_startRoot_90 {X : MC} {Γ : GG} (C : CX X Γ cX0_startRoot 11 "TickPools$Curve" 1 21) (hr : X.2.2.2.2.2.2.2.2.1.sig.returnType = some .int) {k39 : Int64 → Int64 → Int64 → Int32 → Mem → Option (Int32 × Mem)} {q : Int32 × Mem} (hk39 : ∀ (v2 : Int64) (v4 : Int64) (v6 : Int64) (v8 : Int32) (S : Mem), k39 v2 v4 v6 v8 S = some q → ZZ X Γ 11 (QQ X Γ (some (aI q.1)) q.2) S 39 [(2, aJ v2), (4, aJ v4), (6, aJ v6), (8, aI v8)] []) (v2 : Int64) (v4 : Int64) (v6 : Int64) (v8 : Int32) (S : Mem) (hf : f_X0_startRoot_90 k39 v2 v4 v6 v8 S = some q) : ZZ X Γ 11 (QQ X Γ (some (aI q.1)) q.2) S 90 [(2, aJ v2), (4, aJ v4), (6, aJ v6), (8, aI v8)] [] := by
  unfold f_X0_startRoot_90 at hf
  refine z_iinc (j := 3) (v := (v8 + 1)) (lv' := [(8, aI (v8 + 1)), (2, aJ v2), (4, aJ v4), (6, aJ v6)]) C d_X0_startRoot_90 rfl rfl (by decide) rfl ?_
  refine z_goto (tgt := 39) C d_X0_startRoot_93 (by decide) ?_
  exact z_sub [1, 2, 3, 0] rfl (hk39 _ _ _ _ _ hf)
def f_X0_startRoot_67 (k39 : Int64 → Int64 → Int64 → Int32 → Mem → Option (Int32 × Mem)) (v2 : Int64) (v4 : Int64) (v6 : Int64) (v8 : Int32) (v9 : Int64) (S : Mem) : Option (Int32 × Mem) := (if v2 < (v9 * v9) then (f_X0_startRoot_90 k39 v2 v4 (v9 - 1) v8 S) else (f_X0_startRoot_90 k39 v2 v9 v6 v8 S))
set_option maxRecDepth 20000 in
theorem t_X0_startRoot_67 {X : MC} {Γ : GG} (C : CX X Γ cX0_startRoot 11 "TickPools$Curve" 1 21) (hr : X.2.2.2.2.2.2.2.2.1.sig.returnType = some .int) {k39 : Int64 → Int64 → Int64 → Int32 → Mem → Option (Int32 × Mem)} {q : Int32 × Mem} (hk39 : ∀ (v2 : Int64) (v4 : Int64) (v6 : Int64) (v8 : Int32) (S : Mem), k39 v2 v4 v6 v8 S = some q → ZZ X Γ 11 (QQ X Γ (some (aI q.1)) q.2) S 39 [(2, aJ v2), (4, aJ v4), (6, aJ v6), (8, aI v8)] []) (v2 : Int64) (v4 : Int64) (v6 : Int64) (v8 : Int32) (v9 : Int64) (S : Mem) (hf : f_X0_startRoot_67 k39 v2 v4 v6 v8 v9 S = some q) : ZZ X Γ 11 (QQ X Γ (some (aI q.1)) q.2) S 67 [(2, aJ v2), (4, aJ v4), (6, aJ v6), (8, aI v8), (9, aJ v9)] [] := by
  unfold f_X0_startRoot_67 at hf
  refine z_lload (j := 4) C d_X0_startRoot_67 rfl ?_
  refine z_lload (j := 4) C d_X0_startRoot_69 rfl ?_
  refine z_lmul C d_X0_startRoot_71 ?_
  refine z_lload_n (j := 0) C d_X0_startRoot_72 rfl ?_
  refine z_lgt (tgt := 84) C d_X0_startRoot_73 d_X0_startRoot_74 (by decide) hf (fun c73 hf => ?_) (fun c73 hf => ?_)
  · refine z_lload (j := 4) C d_X0_startRoot_84 rfl ?_
    refine z_lconst (v := 1) C d_X0_startRoot_86 (by decide) ?_
    refine z_lsub C d_X0_startRoot_87 ?_
    refine z_lstore (lv' := [(6, aJ (v9 - 1)), (2, aJ v2), (4, aJ v4), (8, aI v8), (9, aJ v9)]) C d_X0_startRoot_88 (by decide) rfl ?_
    exact z_sub [1, 2, 0, 3] rfl (t_X0_startRoot_90 C hr hk39 _ _ _ _ _ hf)
  · refine z_lload (j := 4) C d_X0_startRoot_77 rfl ?_
    refine z_lstore (lv' := [(4, aJ v9), (2, aJ v2), (6, aJ v6), (8, aI v8), (9, aJ v9)]) C d_X0_startRoot_79 (by decide) rfl ?_
    refine z_goto (tgt := 90) C d_X0_startRoot_81 (by decide) ?_
    exact z_sub [1, 0, 2, 3] rfl (t_X0_startRoot_90 C hr hk39 _ _ _ _ _ hf)
def f_X0_startRoot_96 (v4 : Int64) (S : Mem) : Option (Int32 × Mem) := (some (((v4 : Int64).toInt32), S))
set_option maxRecDepth 20000 in
theorem t_X0_startRoot_96 {X : MC} {Γ : GG} (C : CX X Γ cX0_startRoot 11 "TickPools$Curve" 1 21) (hr : X.2.2.2.2.2.2.2.2.1.sig.returnType = some .int) {q : Int32 × Mem} (v4 : Int64) (S : Mem) (hf : f_X0_startRoot_96 v4 S = some q) : ZZ X Γ 11 (QQ X Γ (some (aI q.1)) q.2) S 96 [(4, aJ v4)] [] := by
  unfold f_X0_startRoot_96 at hf
  refine z_lload (j := 0) C d_X0_startRoot_96 rfl ?_
  refine z_l2i C d_X0_startRoot_98 ?_
  exact r_i C hr rfl d_X0_startRoot_99 hf
def f_X0_startRoot_39B (k39 : Int64 → Int64 → Int64 → Int32 → Mem → Option (Int32 × Mem)) (v2 : Int64) (v4 : Int64) (v6 : Int64) (v8 : Int32) (S : Mem) : Option (Int32 × Mem) := (if 64 ≤ v8 then (f_X0_startRoot_96  v4 S) else (if v6 ≤ v4 then (f_X0_startRoot_96  v4 S) else (f_X0_startRoot_67 k39 v2 v4 v6 v8 (((v4 + v6) + 1) / 2) S)))
set_option maxRecDepth 20000 in
theorem t_X0_startRoot_39B {X : MC} {Γ : GG} (C : CX X Γ cX0_startRoot 11 "TickPools$Curve" 1 21) (hr : X.2.2.2.2.2.2.2.2.1.sig.returnType = some .int) {k39 : Int64 → Int64 → Int64 → Int32 → Mem → Option (Int32 × Mem)} {q : Int32 × Mem} (hk39 : ∀ (v2 : Int64) (v4 : Int64) (v6 : Int64) (v8 : Int32) (S : Mem), k39 v2 v4 v6 v8 S = some q → ZZ X Γ 11 (QQ X Γ (some (aI q.1)) q.2) S 39 [(2, aJ v2), (4, aJ v4), (6, aJ v6), (8, aI v8)] []) (v2 : Int64) (v4 : Int64) (v6 : Int64) (v8 : Int32) (S : Mem) (hf : f_X0_startRoot_39B k39 v2 v4 v6 v8 S = some q) : ZZ X Γ 11 (QQ X Γ (some (aI q.1)) q.2) S 39 [(2, aJ v2), (4, aJ v4), (6, aJ v6), (8, aI v8)] [] := by
  unfold f_X0_startRoot_39B at hf
  refine z_iload (j := 3) C d_X0_startRoot_39 rfl ?_
  refine z_bipush (v := 64) C d_X0_startRoot_41 (by decide) ?_
  refine z_icmp_ge (tgt := 96) C d_X0_startRoot_43 (by decide) hf (fun c43 hf => ?_) (fun c43 hf => ?_)
  · exact z_sub [1] rfl (t_X0_startRoot_96 C hr  _ _ hf)
  · refine z_lload (j := 1) C d_X0_startRoot_46 rfl ?_
    refine z_lload (j := 2) C d_X0_startRoot_48 rfl ?_
    refine z_lge (tgt := 96) C d_X0_startRoot_50 d_X0_startRoot_51 (by decide) hf (fun c50 hf => ?_) (fun c50 hf => ?_)
    · exact z_sub [1] rfl (t_X0_startRoot_96 C hr  _ _ hf)
    · refine z_lload (j := 1) C d_X0_startRoot_54 rfl ?_
      refine z_lload (j := 2) C d_X0_startRoot_56 rfl ?_
      refine z_ladd C d_X0_startRoot_58 ?_
      refine z_lconst (v := 1) C d_X0_startRoot_59 (by decide) ?_
      refine z_ladd C d_X0_startRoot_60 ?_
      refine z_ldc2 (v := 2) C tw_633 d_X0_startRoot_61 ?_
      refine z_ldiv C d_X0_startRoot_64 (by decide) ?_
      refine z_lstore (lv' := [(9, aJ (((v4 + v6) + 1) / 2)), (2, aJ v2), (4, aJ v4), (6, aJ v6), (8, aI v8)]) C d_X0_startRoot_65 (by decide) rfl ?_
      exact z_sub [1, 2, 3, 4, 0] rfl (t_X0_startRoot_67 C hr hk39 _ _ _ _ _ _ hf)
def f_X0_startRoot_39 : Nat → Int64 → Int64 → Int64 → Int32 → Mem → Option (Int32 × Mem)
  | 0 => fun _ _ _ _ _ => none
  | n + 1 => f_X0_startRoot_39B (f_X0_startRoot_39 n)
theorem t_X0_startRoot_39 {X : MC} {Γ : GG} (C : CX X Γ cX0_startRoot 11 "TickPools$Curve" 1 21) (hr : X.2.2.2.2.2.2.2.2.1.sig.returnType = some .int) {q : Int32 × Mem} : ∀ (n : Nat) (v2 : Int64) (v4 : Int64) (v6 : Int64) (v8 : Int32) (S : Mem) (hf : f_X0_startRoot_39 n v2 v4 v6 v8 S = some q), ZZ X Γ 11 (QQ X Γ (some (aI q.1)) q.2) S 39 [(2, aJ v2), (4, aJ v4), (6, aJ v6), (8, aI v8)] []
  | 0, _, _, _, _, _, hf => nomatch (show (none : Option (Int32 × Mem)) = some q from hf)
  | n + 1, v2, v4, v6, v8, S, hf => t_X0_startRoot_39B C hr (t_X0_startRoot_39 C hr n) v2 v4 v6 v8 S hf
def f_X0_startRoot_36 (v2 : Int64) (v4 : Int64) (v6 : Int64) (S : Mem) : Option (Int32 × Mem) := (f_X0_startRoot_39  100000 v2 v4 v6 0 S)
set_option maxRecDepth 20000 in
theorem t_X0_startRoot_36 {X : MC} {Γ : GG} (C : CX X Γ cX0_startRoot 11 "TickPools$Curve" 1 21) (hr : X.2.2.2.2.2.2.2.2.1.sig.returnType = some .int) {q : Int32 × Mem} (v2 : Int64) (v4 : Int64) (v6 : Int64) (S : Mem) (hf : f_X0_startRoot_36 v2 v4 v6 S = some q) : ZZ X Γ 11 (QQ X Γ (some (aI q.1)) q.2) S 36 [(2, aJ v2), (4, aJ v4), (6, aJ v6)] [] := by
  unfold f_X0_startRoot_36 at hf
  refine z_iconst (v := 0) C d_X0_startRoot_36 (by decide) ?_
  refine z_istore (lv' := [(8, aI 0), (2, aJ v2), (4, aJ v4), (6, aJ v6)]) C d_X0_startRoot_37 (by decide) rfl ?_
  exact z_sub [1, 2, 3, 0] rfl (t_X0_startRoot_39 C hr  100000 _ _ _ _ _ hf)
def f_X0_startRoot_28 (v2 : Int64) (v4 : Int64) (S : Mem) : Option (Int32 × Mem) := ((f_X0_rootAt 40 S).bind fun q30 => (f_X0_startRoot_36  v2 v4 (q30.1.toInt64) q30.2))
set_option maxRecDepth 20000 in
theorem t_X0_startRoot_28 {X : MC} {Γ : GG} (C : CX X Γ cX0_startRoot 11 "TickPools$Curve" 1 21) (hr : X.2.2.2.2.2.2.2.2.1.sig.returnType = some .int) {q : Int32 × Mem} (v2 : Int64) (v4 : Int64) (S : Mem) (hf : f_X0_startRoot_28 v2 v4 S = some q) : ZZ X Γ 11 (QQ X Γ (some (aI q.1)) q.2) S 28 [(2, aJ v2), (4, aJ v4)] [] := by
  unfold f_X0_startRoot_28 at hf
  refine z_bipush (v := 40) C d_X0_startRoot_28 (by decide) ?_
  obtain ⟨q30, hF, hf⟩ := bd hf
  refine z_callS1 (rest := []) C [aI 40] k_X0_rootAt tw_628 ⟨by decide, by decide⟩ (Nat.le_of_ble_eq_true rfl) d_X0_startRoot_30 (c_X0_rootAt C.inj hF) rfl ?_
  refine z_i2l C d_X0_startRoot_33 ?_
  refine z_lstore (lv' := [(6, aJ (q30.1.toInt64)), (2, aJ v2), (4, aJ v4)]) C d_X0_startRoot_34 (by decide) rfl ?_
  exact z_sub [1, 2, 0] rfl (t_X0_startRoot_36 C hr  _ _ _ _ hf)
def f_X0_startRoot_20 (s0 : Int64) (S : Mem) : Option (Int32 × Mem) := ((f_X0_rootAt 0 S).bind fun q22 => (f_X0_startRoot_28  s0 (q22.1.toInt64) q22.2))
set_option maxRecDepth 20000 in
theorem t_X0_startRoot_20 {X : MC} {Γ : GG} (C : CX X Γ cX0_startRoot 11 "TickPools$Curve" 1 21) (hr : X.2.2.2.2.2.2.2.2.1.sig.returnType = some .int) {q : Int32 × Mem} (s0 : Int64) (S : Mem) (hf : f_X0_startRoot_20 s0 S = some q) : ZZ X Γ 11 (QQ X Γ (some (aI q.1)) q.2) S 20 [] [aJ s0] := by
  unfold f_X0_startRoot_20 at hf
  refine z_lstore_n (lv' := [(2, aJ s0)]) C d_X0_startRoot_20 (by decide) rfl ?_
  refine z_iconst (v := 0) C d_X0_startRoot_21 (by decide) ?_
  obtain ⟨q22, hF, hf⟩ := bd hf
  refine z_callS1 (rest := []) C [aI 0] k_X0_rootAt tw_628 ⟨by decide, by decide⟩ (Nat.le_of_ble_eq_true rfl) d_X0_startRoot_22 (c_X0_rootAt C.inj hF) rfl ?_
  refine z_i2l C d_X0_startRoot_25 ?_
  refine z_lstore (lv' := [(4, aJ (q22.1.toInt64)), (2, aJ s0)]) C d_X0_startRoot_26 (by decide) rfl ?_
  exact z_sub [1, 0] rfl (t_X0_startRoot_28 C hr  _ _ _ hf)
/-- TickPools$Curve.startRoot(II)I -/
def f_X0_startRoot (p0 : Int32) (p1 : Int32) (S : Mem) : Option (Int32 × Mem) := (if 1 ≤ p1 then (if (p1.toInt64) = 0 then none else (f_X0_startRoot_20  ((10000000000 * (p0.toInt64)) / (p1.toInt64)) S)) else (f_X0_startRoot_20  10000000000 S))
set_option maxRecDepth 20000 in
theorem c_X0_startRoot {l : Launch} {Γ : GG} (hI : Inj Γ) {p0 : Int32} {p1 : Int32} {S : Mem} {q : Int32 × Mem} (hf : f_X0_startRoot p0 p1 S = some q) : MM l Γ yX0_startRoot cX0_startRoot 11 (some .int) 1 21 [aI p0, aI p1] S (some (aI q.1)) q.2 := by
  refine met_of hI "TickPools$Curve" rfl (by decide +kernel) (Nat.le_of_ble_eq_true rfl) (fun X hX C hr => ?_)
  unfold f_X0_startRoot at hf
  show ZZ X Γ 11 _ S 0 [(0, aI p0), (1, aI p1)] []
  refine z_iload_n (j := 1) C d_X0_startRoot_0 rfl ?_
  refine z_iconst (v := 1) C d_X0_startRoot_1 (by decide) ?_
  refine z_icmp_ge (tgt := 11) C d_X0_startRoot_2 (by decide) hf (fun c2 hf => ?_) (fun c2 hf => ?_)
  · refine z_ldc2 (v := 10000000000) C tw_627 d_X0_startRoot_11 ?_
    refine z_iload_n (j := 0) C d_X0_startRoot_14 rfl ?_
    refine z_i2l C d_X0_startRoot_15 ?_
    refine z_lmul C d_X0_startRoot_16 ?_
    refine z_iload_n (j := 1) C d_X0_startRoot_17 rfl ?_
    refine z_i2l C d_X0_startRoot_18 ?_
    obtain ⟨hz19, hf⟩ := gdn hf
    refine z_ldiv C d_X0_startRoot_19 hz19 ?_
    exact z_sub [] rfl (t_X0_startRoot_20 C hr  _ _ hf)
  · refine z_ldc2 (v := 10000000000) C tw_627 d_X0_startRoot_5 ?_
    refine z_goto (tgt := 20) C d_X0_startRoot_8 (by decide) ?_
    exact z_sub [] rfl (t_X0_startRoot_20 C hr  _ _ hf)
theorem d_X0_between_0 : decode cX0_between 0 = .ok (.lload_n 3, 1) := by decide +kernel
theorem d_X0_between_1 : decode cX0_between 1 = .ok (.lload 5, 2) := by decide +kernel
theorem d_X0_between_3 : decode cX0_between 3 = .ok (.lcmp, 1) := by decide +kernel
theorem d_X0_between_4 : decode cX0_between 4 = .ok (.ifCond .ge 7, 3) := by decide +kernel
theorem d_X0_between_7 : decode cX0_between 7 = .ok (.lload_n 3, 1) := by decide +kernel
theorem d_X0_between_8 : decode cX0_between 8 = .ok (.goto 5, 3) := by decide +kernel
theorem d_X0_between_11 : decode cX0_between 11 = .ok (.lload 5, 2) := by decide +kernel
theorem d_X0_between_13 : decode cX0_between 13 = .ok (.lstore 8, 2) := by decide +kernel
theorem d_X0_between_15 : decode cX0_between 15 = .ok (.lload_n 3, 1) := by decide +kernel
theorem d_X0_between_16 : decode cX0_between 16 = .ok (.lload 5, 2) := by decide +kernel
theorem d_X0_between_18 : decode cX0_between 18 = .ok (.lcmp, 1) := by decide +kernel
theorem d_X0_between_19 : decode cX0_between 19 = .ok (.ifCond .ge 8, 3) := by decide +kernel
theorem d_X0_between_22 : decode cX0_between 22 = .ok (.lload 5, 2) := by decide +kernel
theorem d_X0_between_24 : decode cX0_between 24 = .ok (.goto 4, 3) := by decide +kernel
theorem d_X0_between_27 : decode cX0_between 27 = .ok (.lload_n 3, 1) := by decide +kernel
theorem d_X0_between_28 : decode cX0_between 28 = .ok (.lstore 10, 2) := by decide +kernel
theorem d_X0_between_30 : decode cX0_between 30 = .ok (.lload_n 1, 1) := by decide +kernel
theorem d_X0_between_31 : decode cX0_between 31 = .ok (.lconst 0, 1) := by decide +kernel
theorem d_X0_between_32 : decode cX0_between 32 = .ok (.lcmp, 1) := by decide +kernel
theorem d_X0_between_33 : decode cX0_between 33 = .ok (.ifCond .le 10, 3) := by decide +kernel
theorem d_X0_between_36 : decode cX0_between 36 = .ok (.lload 8, 2) := by decide +kernel
theorem d_X0_between_38 : decode cX0_between 38 = .ok (.lconst 0, 1) := by decide +kernel
theorem d_X0_between_39 : decode cX0_between 39 = .ok (.lcmp, 1) := by decide +kernel
theorem d_X0_between_40 : decode cX0_between 40 = .ok (.ifCond .gt 5, 3) := by decide +kernel
theorem d_X0_between_43 : decode cX0_between 43 = .ok (.lconst 0, 1) := by decide +kernel
theorem d_X0_between_44 : decode cX0_between 44 = .ok (.lreturn, 1) := by decide +kernel
theorem d_X0_between_45 : decode cX0_between 45 = .ok (.iload_n 0, 1) := by decide +kernel
theorem d_X0_between_46 : decode cX0_between 46 = .ok (.ifCond .eq 17, 3) := by decide +kernel
theorem d_X0_between_49 : decode cX0_between 49 = .ok (.lload_n 1, 1) := by decide +kernel
theorem d_X0_between_50 : decode cX0_between 50 = .ok (.ldc2_w 23, 3) := by decide +kernel
theorem d_X0_between_53 : decode cX0_between 53 = .ok (.lmul, 1) := by decide +kernel
theorem d_X0_between_54 : decode cX0_between 54 = .ok (.lload 10, 2) := by decide +kernel
theorem d_X0_between_56 : decode cX0_between 56 = .ok (.lload 8, 2) := by decide +kernel
theorem d_X0_between_58 : decode cX0_between 58 = .ok (.lsub, 1) := by decide +kernel
theorem d_X0_between_59 : decode cX0_between 59 = .ok (.lmul, 1) := by decide +kernel
theorem d_X0_between_60 : decode cX0_between 60 = .ok (.goto 10, 3) := by decide +kernel
theorem d_X0_between_63 : decode cX0_between 63 = .ok (.lload_n 1, 1) := by decide +kernel
theorem d_X0_between_64 : decode cX0_between 64 = .ok (.lload 10, 2) := by decide +kernel
theorem d_X0_between_66 : decode cX0_between 66 = .ok (.lload 8, 2) := by decide +kernel
theorem d_X0_between_68 : decode cX0_between 68 = .ok (.lsub, 1) := by decide +kernel
theorem d_X0_between_69 : decode cX0_between 69 = .ok (.lmul, 1) := by decide +kernel
theorem d_X0_between_70 : decode cX0_between 70 = .ok (.lstore 12, 2) := by decide +kernel
theorem d_X0_between_72 : decode cX0_between 72 = .ok (.iload_n 0, 1) := by decide +kernel
theorem d_X0_between_73 : decode cX0_between 73 = .ok (.ifCond .eq 11, 3) := by decide +kernel
theorem d_X0_between_76 : decode cX0_between 76 = .ok (.lload 8, 2) := by decide +kernel
theorem d_X0_between_78 : decode cX0_between 78 = .ok (.lload 10, 2) := by decide +kernel
theorem d_X0_between_80 : decode cX0_between 80 = .ok (.lmul, 1) := by decide +kernel
theorem d_X0_between_81 : decode cX0_between 81 = .ok (.goto 6, 3) := by decide +kernel
theorem d_X0_between_84 : decode cX0_between 84 = .ok (.ldc2_w 23, 3) := by decide +kernel
theorem d_X0_between_87 : decode cX0_between 87 = .ok (.lstore 14, 2) := by decide +kernel
theorem d_X0_between_89 : decode cX0_between 89 = .ok (.lload 12, 2) := by decide +kernel
theorem d_X0_between_91 : decode cX0_between 91 = .ok (.lload 14, 2) := by decide +kernel
theorem d_X0_between_93 : decode cX0_between 93 = .ok (.ldiv, 1) := by decide +kernel
theorem d_X0_between_94 : decode cX0_between 94 = .ok (.lstore 16, 2) := by decide +kernel
theorem d_X0_between_96 : decode cX0_between 96 = .ok (.iload 7, 2) := by decide +kernel
theorem d_X0_between_98 : decode cX0_between 98 = .ok (.ifCond .eq 21, 3) := by decide +kernel
theorem d_X0_between_101 : decode cX0_between 101 = .ok (.lload 16, 2) := by decide +kernel
theorem d_X0_between_103 : decode cX0_between 103 = .ok (.lload 14, 2) := by decide +kernel
theorem d_X0_between_105 : decode cX0_between 105 = .ok (.lmul, 1) := by decide +kernel
theorem d_X0_between_106 : decode cX0_between 106 = .ok (.lload 12, 2) := by decide +kernel
theorem d_X0_between_108 : decode cX0_between 108 = .ok (.lcmp, 1) := by decide +kernel
theorem d_X0_between_109 : decode cX0_between 109 = .ok (.ifCond .eq 10, 3) := by decide +kernel
theorem d_X0_between_112 : decode cX0_between 112 = .ok (.lload 16, 2) := by decide +kernel
theorem d_X0_between_114 : decode cX0_between 114 = .ok (.lconst 1, 1) := by decide +kernel
theorem d_X0_between_115 : decode cX0_between 115 = .ok (.ladd, 1) := by decide +kernel
theorem d_X0_between_116 : decode cX0_between 116 = .ok (.goto 5, 3) := by decide +kernel
theorem d_X0_between_119 : decode cX0_between 119 = .ok (.lload 16, 2) := by decide +kernel
theorem d_X0_between_121 : decode cX0_between 121 = .ok (.lreturn, 1) := by decide +kernel
def f_X0_between_43 (S : Mem) : Option (Int64 × Mem) := (some (0, S))
set_option maxRecDepth 20000 in
theorem t_X0_between_43 {X : MC} {Γ : GG} (C : CX X Γ cX0_between 18 "TickPools$Curve" 0 0) (hr : X.2.2.2.2.2.2.2.2.1.sig.returnType = some .long) {q : Int64 × Mem} (S : Mem) (hf : f_X0_between_43 S = some q) : ZZ X Γ 18 (QQ X Γ (some (aJ q.1)) q.2) S 43 [] [] := by
  unfold f_X0_between_43 at hf
  refine z_lconst (v := 0) C d_X0_between_43 (by decide) ?_
  exact r_l C hr d_X0_between_44 hf
def f_X0_between_121 (s0 : Int64) (S : Mem) : Option (Int64 × Mem) := (some (s0, S))
set_option maxRecDepth 20000 in
theorem t_X0_between_121 {X : MC} {Γ : GG} (C : CX X Γ cX0_between 18 "TickPools$Curve" 0 0) (hr : X.2.2.2.2.2.2.2.2.1.sig.returnType = some .long) {q : Int64 × Mem} (s0 : Int64) (S : Mem) (hf : f_X0_between_121 s0 S = some q) : ZZ X Γ 18 (QQ X Γ (some (aJ q.1)) q.2) S 121 [] [aJ s0] := by
  unfold f_X0_between_121 at hf
  exact r_l C hr d_X0_between_121 hf
def f_X0_between_119 (v16 : Int64) (S : Mem) : Option (Int64 × Mem) := (f_X0_between_121  v16 S)
set_option maxRecDepth 20000 in
theorem t_X0_between_119 {X : MC} {Γ : GG} (C : CX X Γ cX0_between 18 "TickPools$Curve" 0 0) (hr : X.2.2.2.2.2.2.2.2.1.sig.returnType = some .long) {q : Int64 × Mem} (v16 : Int64) (S : Mem) (hf : f_X0_between_119 v16 S = some q) : ZZ X Γ 18 (QQ X Γ (some (aJ q.1)) q.2) S 119 [(16, aJ v16)] [] := by
  unfold f_X0_between_119 at hf
  refine z_lload (j := 0) C d_X0_between_119 rfl ?_
  exact z_sub [] rfl (t_X0_between_121 C hr  _ _ hf)
def f_X0_between_96 (v7 : Int32) (v12 : Int64) (v14 : Int64) (v16 : Int64) (S : Mem) : Option (Int64 × Mem) := (if v7 = 0 then (f_X0_between_119  v16 S) else (if (v16 * v14) = v12 then (f_X0_between_119  v16 S) else (f_X0_between_121  (v16 + 1) S)))
set_option maxRecDepth 20000 in
theorem t_X0_between_96 {X : MC} {Γ : GG} (C : CX X Γ cX0_between 18 "TickPools$Curve" 0 0) (hr : X.2.2.2.2.2.2.2.2.1.sig.returnType = some .long) {q : Int64 × Mem} (v7 : Int32) (v12 : Int64) (v14 : Int64) (v16 : Int64) (S : Mem) (hf : f_X0_between_96 v7 v12 v14 v16 S = some q) : ZZ X Γ 18 (QQ X Γ (some (aJ q.1)) q.2) S 96 [(7, aI v7), (12, aJ v12), (14, aJ v14), (16, aJ v16)] [] := by
  unfold f_X0_between_96 at hf
  refine z_iload (j := 0) C d_X0_between_96 rfl ?_
  refine z_if_eq (tgt := 119) C d_X0_between_98 (by decide) hf (fun c98 hf => ?_) (fun c98 hf => ?_)
  · exact z_sub [3] rfl (t_X0_between_119 C hr  _ _ hf)
  · refine z_lload (j := 3) C d_X0_between_101 rfl ?_
    refine z_lload (j := 2) C d_X0_between_103 rfl ?_
    refine z_lmul C d_X0_between_105 ?_
    refine z_lload (j := 1) C d_X0_between_106 rfl ?_
    refine z_leq (tgt := 119) C d_X0_between_108 d_X0_between_109 (by decide) hf (fun c108 hf => ?_) (fun c108 hf => ?_)
    · exact z_sub [3] rfl (t_X0_between_119 C hr  _ _ hf)
    · refine z_lload (j := 3) C d_X0_between_112 rfl ?_
      refine z_lconst (v := 1) C d_X0_between_114 (by decide) ?_
      refine z_ladd C d_X0_between_115 ?_
      refine z_goto (tgt := 121) C d_X0_between_116 (by decide) ?_
      exact z_sub [] rfl (t_X0_between_121 C hr  _ _ hf)
def f_X0_between_87 (v7 : Int32) (v12 : Int64) (s0 : Int64) (S : Mem) : Option (Int64 × Mem) := (if s0 = 0 then none else (f_X0_between_96  v7 v12 s0 (v12 / s0) S))
set_option maxRecDepth 20000 in
theorem t_X0_between_87 {X : MC} {Γ : GG} (C : CX X Γ cX0_between 18 "TickPools$Curve" 0 0) (hr : X.2.2.2.2.2.2.2.2.1.sig.returnType = some .long) {q : Int64 × Mem} (v7 : Int32) (v12 : Int64) (s0 : Int64) (S : Mem) (hf : f_X0_between_87 v7 v12 s0 S = some q) : ZZ X Γ 18 (QQ X Γ (some (aJ q.1)) q.2) S 87 [(7, aI v7), (12, aJ v12)] [aJ s0] := by
  unfold f_X0_between_87 at hf
  refine z_lstore (lv' := [(14, aJ s0), (7, aI v7), (12, aJ v12)]) C d_X0_between_87 (by decide) rfl ?_
  refine z_lload (j := 2) C d_X0_between_89 rfl ?_
  refine z_lload (j := 0) C d_X0_between_91 rfl ?_
  obtain ⟨hz93, hf⟩ := gdn hf
  refine z_ldiv C d_X0_between_93 hz93 ?_
  refine z_lstore (lv' := [(16, aJ (v12 / s0)), (14, aJ s0), (7, aI v7), (12, aJ v12)]) C d_X0_between_94 (by decide) rfl ?_
  exact z_sub [2, 3, 1, 0] rfl (t_X0_between_96 C hr  _ _ _ _ _ hf)
def f_X0_between_70 (v0 : Int32) (v7 : Int32) (v8 : Int64) (v10 : Int64) (s0 : Int64) (S : Mem) : Option (Int64 × Mem) := (if v0 = 0 then (f_X0_between_87  v7 s0 100000 S) else (f_X0_between_87  v7 s0 (v8 * v10) S))
set_option maxRecDepth 20000 in
theorem t_X0_between_70 {X : MC} {Γ : GG} (C : CX X Γ cX0_between 18 "TickPools$Curve" 0 0) (hr : X.2.2.2.2.2.2.2.2.1.sig.returnType = some .long) {q : Int64 × Mem} (v0 : Int32) (v7 : Int32) (v8 : Int64) (v10 : Int64) (s0 : Int64) (S : Mem) (hf : f_X0_between_70 v0 v7 v8 v10 s0 S = some q) : ZZ X Γ 18 (QQ X Γ (some (aJ q.1)) q.2) S 70 [(0, aI v0), (7, aI v7), (8, aJ v8), (10, aJ v10)] [aJ s0] := by
  unfold f_X0_between_70 at hf
  refine z_lstore (lv' := [(12, aJ s0), (0, aI v0), (7, aI v7), (8, aJ v8), (10, aJ v10)]) C d_X0_between_70 (by decide) rfl ?_
  refine z_iload_n (j := 1) C d_X0_between_72 rfl ?_
  refine z_if_eq (tgt := 84) C d_X0_between_73 (by decide) hf (fun c73 hf => ?_) (fun c73 hf => ?_)
  · refine z_ldc2 (v := 100000) C tw_874 d_X0_between_84 ?_
    exact z_sub [2, 0] rfl (t_X0_between_87 C hr  _ _ _ _ hf)
  · refine z_lload (j := 3) C d_X0_between_76 rfl ?_
    refine z_lload (j := 4) C d_X0_between_78 rfl ?_
    refine z_lmul C d_X0_between_80 ?_
    refine z_goto (tgt := 87) C d_X0_between_81 (by decide) ?_
    exact z_sub [2, 0] rfl (t_X0_between_87 C hr  _ _ _ _ hf)
def f_X0_between_28 (v0 : Int32) (v1 : Int64) (v7 : Int32) (v8 : Int64) (s0 : Int64) (S : Mem) : Option (Int64 × Mem) := (if v1 ≤ 0 then (f_X0_between_43  S) else (if 0 < v8 then (if v0 = 0 then (f_X0_between_70  v0 v7 v8 s0 (v1 * (s0 - v8)) S) else (f_X0_between_70  v0 v7 v8 s0 ((v1 * 100000) * (s0 - v8)) S)) else (f_X0_between_43  S)))
set_option maxRecDepth 20000 in
theorem t_X0_between_28 {X : MC} {Γ : GG} (C : CX X Γ cX0_between 18 "TickPools$Curve" 0 0) (hr : X.2.2.2.2.2.2.2.2.1.sig.returnType = some .long) {q : Int64 × Mem} (v0 : Int32) (v1 : Int64) (v7 : Int32) (v8 : Int64) (s0 : Int64) (S : Mem) (hf : f_X0_between_28 v0 v1 v7 v8 s0 S = some q) : ZZ X Γ 18 (QQ X Γ (some (aJ q.1)) q.2) S 28 [(0, aI v0), (1, aJ v1), (7, aI v7), (8, aJ v8)] [aJ s0] := by
  unfold f_X0_between_28 at hf
  refine z_lstore (lv' := [(10, aJ s0), (0, aI v0), (1, aJ v1), (7, aI v7), (8, aJ v8)]) C d_X0_between_28 (by decide) rfl ?_
  refine z_lload_n (j := 2) C d_X0_between_30 rfl ?_
  refine z_lconst (v := 0) C d_X0_between_31 (by decide) ?_
  refine z_lle (tgt := 43) C d_X0_between_32 d_X0_between_33 (by decide) hf (fun c32 hf => ?_) (fun c32 hf => ?_)
  · exact z_sub [] rfl (t_X0_between_43 C hr  _ hf)
  · refine z_lload (j := 4) C d_X0_between_36 rfl ?_
    refine z_lconst (v := 0) C d_X0_between_38 (by decide) ?_
    refine z_lgt (tgt := 45) C d_X0_between_39 d_X0_between_40 (by decide) hf (fun c39 hf => ?_) (fun c39 hf => ?_)
    · refine z_iload_n (j := 1) C d_X0_between_45 rfl ?_
      refine z_if_eq (tgt := 63) C d_X0_between_46 (by decide) hf (fun c46 hf => ?_) (fun c46 hf => ?_)
      · refine z_lload_n (j := 2) C d_X0_between_63 rfl ?_
        refine z_lload (j := 0) C d_X0_between_64 rfl ?_
        refine z_lload (j := 4) C d_X0_between_66 rfl ?_
        refine z_lsub C d_X0_between_68 ?_
        refine z_lmul C d_X0_between_69 ?_
        exact z_sub [1, 3, 4, 0] rfl (t_X0_between_70 C hr  _ _ _ _ _ _ hf)
      · refine z_lload_n (j := 2) C d_X0_between_49 rfl ?_
        refine z_ldc2 (v := 100000) C tw_874 d_X0_between_50 ?_
        refine z_lmul C d_X0_between_53 ?_
        refine z_lload (j := 0) C d_X0_between_54 rfl ?_
        refine z_lload (j := 4) C d_X0_between_56 rfl ?_
        refine z_lsub C d_X0_between_58 ?_
        refine z_lmul C d_X0_between_59 ?_
        refine z_goto (tgt := 70) C d_X0_between_60 (by decide) ?_
        exact z_sub [1, 3, 4, 0] rfl (t_X0_between_70 C hr  _ _ _ _ _ _ hf)
    · exact z_sub [] rfl (t_X0_between_43 C hr  _ hf)
def f_X0_between_13 (v0 : Int32) (v1 : Int64) (v3 : Int64) (v5 : Int64) (v7 : Int32) (s0 : Int64) (S : Mem) : Option (Int64 × Mem) := (if v5 ≤ v3 then (f_X0_between_28  v0 v1 v7 s0 v3 S) else (f_X0_between_28  v0 v1 v7 s0 v5 S))
set_option maxRecDepth 20000 in
theorem t_X0_between_13 {X : MC} {Γ : GG} (C : CX X Γ cX0_between 18 "TickPools$Curve" 0 0) (hr : X.2.2.2.2.2.2.2.2.1.sig.returnType = some .long) {q : Int64 × Mem} (v0 : Int32) (v1 : Int64) (v3 : Int64) (v5 : Int64) (v7 : Int32) (s0 : Int64) (S : Mem) (hf : f_X0_between_13 v0 v1 v3 v5 v7 s0 S = some q) : ZZ X Γ 18 (QQ X Γ (some (aJ q.1)) q.2) S 13 [(0, aI v0), (1, aJ v1), (3, aJ v3), (5, aJ v5), (7, aI v7)] [aJ s0] := by
  unfold f_X0_between_13 at hf
  refine z_lstore (lv' := [(8, aJ s0), (0, aI v0), (1, aJ v1), (3, aJ v3), (5, aJ v5), (7, aI v7)]) C d_X0_between_13 (by decide) rfl ?_
  refine z_lload_n (j := 3) C d_X0_between_15 rfl ?_
  refine z_lload (j := 4) C d_X0_between_16 rfl ?_
  refine z_lge (tgt := 27) C d_X0_between_18 d_X0_between_19 (by decide) hf (fun c18 hf => ?_) (fun c18 hf => ?_)
  · refine z_lload_n (j := 3) C d_X0_between_27 rfl ?_
    exact z_sub [1, 2, 5, 0] rfl (t_X0_between_28 C hr  _ _ _ _ _ _ hf)
  · refine z_lload (j := 4) C d_X0_between_22 rfl ?_
    refine z_goto (tgt := 28) C d_X0_between_24 (by decide) ?_
    exact z_sub [1, 2, 5, 0] rfl (t_X0_between_28 C hr  _ _ _ _ _ _ hf)
/-- TickPools$Curve.between(ZJJJZ)J -/
def f_X0_between (p0 : Int32) (p1 : Int64) (p3 : Int64) (p5 : Int64) (p7 : Int32) (S : Mem) : Option (Int64 × Mem) := (if p5 ≤ p3 then (f_X0_between_13  p0 p1 p3 p5 p7 p5 S) else (f_X0_between_13  p0 p1 p3 p5 p7 p3 S))
set_option maxRecDepth 20000 in
theorem c_X0_between {l : Launch} {Γ : GG} (hI : Inj Γ) {p0 : Int32} {p1 : Int64} {p3 : Int64} {p5 : Int64} {p7 : Int32} {S : Mem} {q : Int64 × Mem} (hf : f_X0_between p0 p1 p3 p5 p7 S = some q) : MM l Γ yX0_between cX0_between 18 (some .long) 0 0 [aI p0, aJ p1, aJ p3, aJ p5, aI p7] S (some (aJ q.1)) q.2 := by
  refine met_of hI "TickPools$Curve" rfl (by decide +kernel) (Nat.le_of_ble_eq_true rfl) (fun X hX C hr => ?_)
  unfold f_X0_between at hf
  show ZZ X Γ 18 _ S 0 [(0, aI p0), (1, aJ p1), (3, aJ p3), (5, aJ p5), (7, aI p7)] []
  refine z_lload_n (j := 2) C d_X0_between_0 rfl ?_
  refine z_lload (j := 3) C d_X0_between_1 rfl ?_
  refine z_lge (tgt := 11) C d_X0_between_3 d_X0_between_4 (by decide) hf (fun c3 hf => ?_) (fun c3 hf => ?_)
  · refine z_lload (j := 3) C d_X0_between_11 rfl ?_
    exact z_sub [0, 1, 2, 3, 4] rfl (t_X0_between_13 C hr  _ _ _ _ _ _ _ hf)
  · refine z_lload_n (j := 2) C d_X0_between_7 rfl ?_
    refine z_goto (tgt := 13) C d_X0_between_8 (by decide) ?_
    exact z_sub [0, 1, 2, 3, 4] rfl (t_X0_between_13 C hr  _ _ _ _ _ _ _ hf)
theorem d_X0_upwards_0 : decode cX0_upwards 0 = .ok (.lload_n 2, 1) := by decide +kernel
theorem d_X0_upwards_1 : decode cX0_upwards 1 = .ok (.lconst 0, 1) := by decide +kernel
theorem d_X0_upwards_2 : decode cX0_upwards 2 = .ok (.lcmp, 1) := by decide +kernel
theorem d_X0_upwards_3 : decode cX0_upwards 3 = .ok (.ifCond .gt 7, 3) := by decide +kernel
theorem d_X0_upwards_6 : decode cX0_upwards 6 = .ok (.lconst 0, 1) := by decide +kernel
theorem d_X0_upwards_7 : decode cX0_upwards 7 = .ok (.goto 10, 3) := by decide +kernel
theorem d_X0_upwards_10 : decode cX0_upwards 10 = .ok (.lload_n 0, 1) := by decide +kernel
theorem d_X0_upwards_11 : decode cX0_upwards 11 = .ok (.lload_n 2, 1) := by decide +kernel
theorem d_X0_upwards_12 : decode cX0_upwards 12 = .ok (.ladd, 1) := by decide +kernel
theorem d_X0_upwards_13 : decode cX0_upwards 13 = .ok (.lconst 1, 1) := by decide +kernel
theorem d_X0_upwards_14 : decode cX0_upwards 14 = .ok (.lsub, 1) := by decide +kernel
theorem d_X0_upwards_15 : decode cX0_upwards 15 = .ok (.lload_n 2, 1) := by decide +kernel
theorem d_X0_upwards_16 : decode cX0_upwards 16 = .ok (.ldiv, 1) := by decide +kernel
theorem d_X0_upwards_17 : decode cX0_upwards 17 = .ok (.lreturn, 1) := by decide +kernel
def f_X0_upwards_17 (s0 : Int64) (S : Mem) : Option (Int64 × Mem) := (some (s0, S))
set_option maxRecDepth 20000 in
theorem t_X0_upwards_17 {X : MC} {Γ : GG} (C : CX X Γ cX0_upwards 4 "TickPools$Curve" 0 0) (hr : X.2.2.2.2.2.2.2.2.1.sig.returnType = some .long) {q : Int64 × Mem} (s0 : Int64) (S : Mem) (hf : f_X0_upwards_17 s0 S = some q) : ZZ X Γ 4 (QQ X Γ (some (aJ q.1)) q.2) S 17 [] [aJ s0] := by
  unfold f_X0_upwards_17 at hf
  exact r_l C hr d_X0_upwards_17 hf
/-- TickPools$Curve.upwards(JJ)J -/
def f_X0_upwards (p0 : Int64) (p2 : Int64) (S : Mem) : Option (Int64 × Mem) := (if 0 < p2 then (if p2 = 0 then none else (f_X0_upwards_17  (((p0 + p2) - 1) / p2) S)) else (f_X0_upwards_17  0 S))
set_option maxRecDepth 20000 in
theorem c_X0_upwards {l : Launch} {Γ : GG} (hI : Inj Γ) {p0 : Int64} {p2 : Int64} {S : Mem} {q : Int64 × Mem} (hf : f_X0_upwards p0 p2 S = some q) : MM l Γ yX0_upwards cX0_upwards 4 (some .long) 0 0 [aJ p0, aJ p2] S (some (aJ q.1)) q.2 := by
  refine met_of hI "TickPools$Curve" rfl (by decide +kernel) (Nat.le_of_ble_eq_true rfl) (fun X hX C hr => ?_)
  unfold f_X0_upwards at hf
  show ZZ X Γ 4 _ S 0 [(0, aJ p0), (2, aJ p2)] []
  refine z_lload_n (j := 1) C d_X0_upwards_0 rfl ?_
  refine z_lconst (v := 0) C d_X0_upwards_1 (by decide) ?_
  refine z_lgt (tgt := 10) C d_X0_upwards_2 d_X0_upwards_3 (by decide) hf (fun c2 hf => ?_) (fun c2 hf => ?_)
  · refine z_lload_n (j := 0) C d_X0_upwards_10 rfl ?_
    refine z_lload_n (j := 1) C d_X0_upwards_11 rfl ?_
    refine z_ladd C d_X0_upwards_12 ?_
    refine z_lconst (v := 1) C d_X0_upwards_13 (by decide) ?_
    refine z_lsub C d_X0_upwards_14 ?_
    refine z_lload_n (j := 1) C d_X0_upwards_15 rfl ?_
    obtain ⟨hz16, hf⟩ := gdn hf
    refine z_ldiv C d_X0_upwards_16 hz16 ?_
    exact z_sub [] rfl (t_X0_upwards_17 C hr  _ _ hf)
  · refine z_lconst (v := 0) C d_X0_upwards_6 (by decide) ?_
    refine z_goto (tgt := 17) C d_X0_upwards_7 (by decide) ?_
    exact z_sub [] rfl (t_X0_upwards_17 C hr  _ _ hf)
theorem d_X0_rootBehindIn_0 : decode cX0_rootBehindIn 0 = .ok (.lload_n 1, 1) := by decide +kernel
theorem d_X0_rootBehindIn_1 : decode cX0_rootBehindIn 1 = .ok (.lconst 0, 1) := by decide +kernel
theorem d_X0_rootBehindIn_2 : decode cX0_rootBehindIn 2 = .ok (.lcmp, 1) := by decide +kernel
theorem d_X0_rootBehindIn_3 : decode cX0_rootBehindIn 3 = .ok (.ifCond .gt 6, 3) := by decide +kernel
theorem d_X0_rootBehindIn_6 : decode cX0_rootBehindIn 6 = .ok (.lload_n 3, 1) := by decide +kernel
theorem d_X0_rootBehindIn_7 : decode cX0_rootBehindIn 7 = .ok (.l2i, 1) := by decide +kernel
theorem d_X0_rootBehindIn_8 : decode cX0_rootBehindIn 8 = .ok (.ireturn, 1) := by decide +kernel
theorem d_X0_rootBehindIn_9 : decode cX0_rootBehindIn 9 = .ok (.iload_n 0, 1) := by decide +kernel
theorem d_X0_rootBehindIn_10 : decode cX0_rootBehindIn 10 = .ok (.ifCond .ne 26, 3) := by decide +kernel
theorem d_X0_rootBehindIn_13 : decode cX0_rootBehindIn 13 = .ok (.lload_n 1, 1) := by decide +kernel
theorem d_X0_rootBehindIn_14 : decode cX0_rootBehindIn 14 = .ok (.ldc2_w 23, 3) := by decide +kernel
theorem d_X0_rootBehindIn_17 : decode cX0_rootBehindIn 17 = .ok (.lmul, 1) := by decide +kernel
theorem d_X0_rootBehindIn_18 : decode cX0_rootBehindIn 18 = .ok (.lstore 7, 2) := by decide +kernel
theorem d_X0_rootBehindIn_20 : decode cX0_rootBehindIn 20 = .ok (.lload 7, 2) := by decide +kernel
theorem d_X0_rootBehindIn_22 : decode cX0_rootBehindIn 22 = .ok (.lload_n 3, 1) := by decide +kernel
theorem d_X0_rootBehindIn_23 : decode cX0_rootBehindIn 23 = .ok (.lmul, 1) := by decide +kernel
theorem d_X0_rootBehindIn_24 : decode cX0_rootBehindIn 24 = .ok (.lload 7, 2) := by decide +kernel
theorem d_X0_rootBehindIn_26 : decode cX0_rootBehindIn 26 = .ok (.lload 5, 2) := by decide +kernel
theorem d_X0_rootBehindIn_28 : decode cX0_rootBehindIn 28 = .ok (.lload_n 3, 1) := by decide +kernel
theorem d_X0_rootBehindIn_29 : decode cX0_rootBehindIn 29 = .ok (.lmul, 1) := by decide +kernel
theorem d_X0_rootBehindIn_30 : decode cX0_rootBehindIn 30 = .ok (.ladd, 1) := by decide +kernel
theorem d_X0_rootBehindIn_31 : decode cX0_rootBehindIn 31 = .ok (.invokestatic 25, 3) := by decide +kernel
theorem d_X0_rootBehindIn_34 : decode cX0_rootBehindIn 34 = .ok (.l2i, 1) := by decide +kernel
theorem d_X0_rootBehindIn_35 : decode cX0_rootBehindIn 35 = .ok (.ireturn, 1) := by decide +kernel
theorem d_X0_rootBehindIn_36 : decode cX0_rootBehindIn 36 = .ok (.lload_n 3, 1) := by decide +kernel
theorem d_X0_rootBehindIn_37 : decode cX0_rootBehindIn 37 = .ok (.lload 5, 2) := by decide +kernel
theorem d_X0_rootBehindIn_39 : decode cX0_rootBehindIn 39 = .ok (.ldc2_w 23, 3) := by decide +kernel
theorem d_X0_rootBehindIn_42 : decode cX0_rootBehindIn 42 = .ok (.lmul, 1) := by decide +kernel
theorem d_X0_rootBehindIn_43 : decode cX0_rootBehindIn 43 = .ok (.lload_n 1, 1) := by decide +kernel
theorem d_X0_rootBehindIn_44 : decode cX0_rootBehindIn 44 = .ok (.ldiv, 1) := by decide +kernel
theorem d_X0_rootBehindIn_45 : decode cX0_rootBehindIn 45 = .ok (.ladd, 1) := by decide +kernel
theorem d_X0_rootBehindIn_46 : decode cX0_rootBehindIn 46 = .ok (.l2i, 1) := by decide +kernel
theorem d_X0_rootBehindIn_47 : decode cX0_rootBehindIn 47 = .ok (.ireturn, 1) := by decide +kernel
def f_X0_rootBehindIn_20 (v3 : Int64) (v5 : Int64) (v7 : Int64) (S : Mem) : Option (Int32 × Mem) := ((f_X0_upwards (v7 * v3) (v7 + (v5 * v3)) S).bind fun q31 => (some (((q31.1 : Int64).toInt32), q31.2)))
set_option maxRecDepth 20000 in
theorem t_X0_rootBehindIn_20 {X : MC} {Γ : GG} (C : CX X Γ cX0_rootBehindIn 9 "TickPools$Curve" 1 23) (hr : X.2.2.2.2.2.2.2.2.1.sig.returnType = some .int) {q : Int32 × Mem} (v3 : Int64) (v5 : Int64) (v7 : Int64) (S : Mem) (hf : f_X0_rootBehindIn_20 v3 v5 v7 S = some q) : ZZ X Γ 9 (QQ X Γ (some (aI q.1)) q.2) S 20 [(3, aJ v3), (5, aJ v5), (7, aJ v7)] [] := by
  unfold f_X0_rootBehindIn_20 at hf
  refine z_lload (j := 2) C d_X0_rootBehindIn_20 rfl ?_
  refine z_lload_n (j := 0) C d_X0_rootBehindIn_22 rfl ?_
  refine z_lmul C d_X0_rootBehindIn_23 ?_
  refine z_lload (j := 2) C d_X0_rootBehindIn_24 rfl ?_
  refine z_lload (j := 1) C d_X0_rootBehindIn_26 rfl ?_
  refine z_lload_n (j := 0) C d_X0_rootBehindIn_28 rfl ?_
  refine z_lmul C d_X0_rootBehindIn_29 ?_
  refine z_ladd C d_X0_rootBehindIn_30 ?_
  obtain ⟨q31, hF, hf⟩ := bd hf
  refine z_callS1 (rest := []) C [aJ (v7 * v3), aJ (v7 + (v5 * v3))] k_X0_upwards tw_880 ⟨by decide, by decide⟩ (Nat.le_of_ble_eq_true rfl) d_X0_rootBehindIn_31 (c_X0_upwards C.inj hF) rfl ?_
  refine z_l2i C d_X0_rootBehindIn_34 ?_
  exact r_i C hr rfl d_X0_rootBehindIn_35 hf
/-- TickPools$Curve.rootBehindIn(IJJJ)I -/
def f_X0_rootBehindIn (p0 : Int32) (p1 : Int64) (p3 : Int64) (p5 : Int64) (S : Mem) : Option (Int32 × Mem) := (if 0 < p1 then (if p0 = 0 then (f_X0_rootBehindIn_20  p3 p5 (p1 * 100000) S) else (if p1 = 0 then none else (some ((((p3 + ((p5 * 100000) / p1)) : Int64).toInt32), S)))) else (some (((p3 : Int64).toInt32), S)))
set_option maxRecDepth 20000 in
theorem c_X0_rootBehindIn {l : Launch} {Γ : GG} (hI : Inj Γ) {p0 : Int32} {p1 : Int64} {p3 : Int64} {p5 : Int64} {S : Mem} {q : Int32 × Mem} (hf : f_X0_rootBehindIn p0 p1 p3 p5 S = some q) : MM l Γ yX0_rootBehindIn cX0_rootBehindIn 9 (some .int) 1 23 [aI p0, aJ p1, aJ p3, aJ p5] S (some (aI q.1)) q.2 := by
  refine met_of hI "TickPools$Curve" rfl (by decide +kernel) (Nat.le_of_ble_eq_true rfl) (fun X hX C hr => ?_)
  unfold f_X0_rootBehindIn at hf
  show ZZ X Γ 9 _ S 0 [(0, aI p0), (1, aJ p1), (3, aJ p3), (5, aJ p5)] []
  refine z_lload_n (j := 1) C d_X0_rootBehindIn_0 rfl ?_
  refine z_lconst (v := 0) C d_X0_rootBehindIn_1 (by decide) ?_
  refine z_lgt (tgt := 9) C d_X0_rootBehindIn_2 d_X0_rootBehindIn_3 (by decide) hf (fun c2 hf => ?_) (fun c2 hf => ?_)
  · refine z_iload_n (j := 0) C d_X0_rootBehindIn_9 rfl ?_
    refine z_if_ne (tgt := 36) C d_X0_rootBehindIn_10 (by decide) hf (fun c10 hf => ?_) (fun c10 hf => ?_)
    · refine z_lload_n (j := 2) C d_X0_rootBehindIn_36 rfl ?_
      refine z_lload (j := 3) C d_X0_rootBehindIn_37 rfl ?_
      refine z_ldc2 (v := 100000) C tw_874 d_X0_rootBehindIn_39 ?_
      refine z_lmul C d_X0_rootBehindIn_42 ?_
      refine z_lload_n (j := 1) C d_X0_rootBehindIn_43 rfl ?_
      obtain ⟨hz44, hf⟩ := gdn hf
      refine z_ldiv C d_X0_rootBehindIn_44 hz44 ?_
      refine z_ladd C d_X0_rootBehindIn_45 ?_
      refine z_l2i C d_X0_rootBehindIn_46 ?_
      exact r_i C hr rfl d_X0_rootBehindIn_47 hf
    · refine z_lload_n (j := 1) C d_X0_rootBehindIn_13 rfl ?_
      refine z_ldc2 (v := 100000) C tw_874 d_X0_rootBehindIn_14 ?_
      refine z_lmul C d_X0_rootBehindIn_17 ?_
      refine z_lstore (lv' := [(7, aJ (p1 * 100000)), (0, aI p0), (1, aJ p1), (3, aJ p3), (5, aJ p5)]) C d_X0_rootBehindIn_18 (by decide) rfl ?_
      exact z_sub [3, 4, 0] rfl (t_X0_rootBehindIn_20 C hr  _ _ _ _ hf)
  · refine z_lload_n (j := 2) C d_X0_rootBehindIn_6 rfl ?_
    refine z_l2i C d_X0_rootBehindIn_7 ?_
    exact r_i C hr rfl d_X0_rootBehindIn_8 hf
theorem d_X0_rootBehindOut_0 : decode cX0_rootBehindOut 0 = .ok (.iload_n 0, 1) := by decide +kernel
theorem d_X0_rootBehindOut_1 : decode cX0_rootBehindOut 1 = .ok (.ifCond .ne 17, 3) := by decide +kernel
theorem d_X0_rootBehindOut_4 : decode cX0_rootBehindOut 4 = .ok (.lload_n 3, 1) := by decide +kernel
theorem d_X0_rootBehindOut_5 : decode cX0_rootBehindOut 5 = .ok (.lload 5, 2) := by decide +kernel
theorem d_X0_rootBehindOut_7 : decode cX0_rootBehindOut 7 = .ok (.ldc2_w 23, 3) := by decide +kernel
theorem d_X0_rootBehindOut_10 : decode cX0_rootBehindOut 10 = .ok (.lmul, 1) := by decide +kernel
theorem d_X0_rootBehindOut_11 : decode cX0_rootBehindOut 11 = .ok (.lload_n 1, 1) := by decide +kernel
theorem d_X0_rootBehindOut_12 : decode cX0_rootBehindOut 12 = .ok (.invokestatic 25, 3) := by decide +kernel
theorem d_X0_rootBehindOut_15 : decode cX0_rootBehindOut 15 = .ok (.lsub, 1) := by decide +kernel
theorem d_X0_rootBehindOut_16 : decode cX0_rootBehindOut 16 = .ok (.l2i, 1) := by decide +kernel
theorem d_X0_rootBehindOut_17 : decode cX0_rootBehindOut 17 = .ok (.ireturn, 1) := by decide +kernel
theorem d_X0_rootBehindOut_18 : decode cX0_rootBehindOut 18 = .ok (.lload_n 1, 1) := by decide +kernel
theorem d_X0_rootBehindOut_19 : decode cX0_rootBehindOut 19 = .ok (.ldc2_w 23, 3) := by decide +kernel
theorem d_X0_rootBehindOut_22 : decode cX0_rootBehindOut 22 = .ok (.lmul, 1) := by decide +kernel
theorem d_X0_rootBehindOut_23 : decode cX0_rootBehindOut 23 = .ok (.lstore 7, 2) := by decide +kernel
theorem d_X0_rootBehindOut_25 : decode cX0_rootBehindOut 25 = .ok (.lload 7, 2) := by decide +kernel
theorem d_X0_rootBehindOut_27 : decode cX0_rootBehindOut 27 = .ok (.lload_n 3, 1) := by decide +kernel
theorem d_X0_rootBehindOut_28 : decode cX0_rootBehindOut 28 = .ok (.lmul, 1) := by decide +kernel
theorem d_X0_rootBehindOut_29 : decode cX0_rootBehindOut 29 = .ok (.lload 7, 2) := by decide +kernel
theorem d_X0_rootBehindOut_31 : decode cX0_rootBehindOut 31 = .ok (.lload 5, 2) := by decide +kernel
theorem d_X0_rootBehindOut_33 : decode cX0_rootBehindOut 33 = .ok (.lload_n 3, 1) := by decide +kernel
theorem d_X0_rootBehindOut_34 : decode cX0_rootBehindOut 34 = .ok (.lmul, 1) := by decide +kernel
theorem d_X0_rootBehindOut_35 : decode cX0_rootBehindOut 35 = .ok (.lsub, 1) := by decide +kernel
theorem d_X0_rootBehindOut_36 : decode cX0_rootBehindOut 36 = .ok (.invokestatic 25, 3) := by decide +kernel
theorem d_X0_rootBehindOut_39 : decode cX0_rootBehindOut 39 = .ok (.l2i, 1) := by decide +kernel
theorem d_X0_rootBehindOut_40 : decode cX0_rootBehindOut 40 = .ok (.ireturn, 1) := by decide +kernel
def f_X0_rootBehindOut_25 (v3 : Int64) (v5 : Int64) (v7 : Int64) (S : Mem) : Option (Int32 × Mem) := ((f_X0_upwards (v7 * v3) (v7 - (v5 * v3)) S).bind fun q36 => (some (((q36.1 : Int64).toInt32), q36.2)))
set_option maxRecDepth 20000 in
theorem t_X0_rootBehindOut_25 {X : MC} {Γ : GG} (C : CX X Γ cX0_rootBehindOut 9 "TickPools$Curve" 1 23) (hr : X.2.2.2.2.2.2.2.2.1.sig.returnType = some .int) {q : Int32 × Mem} (v3 : Int64) (v5 : Int64) (v7 : Int64) (S : Mem) (hf : f_X0_rootBehindOut_25 v3 v5 v7 S = some q) : ZZ X Γ 9 (QQ X Γ (some (aI q.1)) q.2) S 25 [(3, aJ v3), (5, aJ v5), (7, aJ v7)] [] := by
  unfold f_X0_rootBehindOut_25 at hf
  refine z_lload (j := 2) C d_X0_rootBehindOut_25 rfl ?_
  refine z_lload_n (j := 0) C d_X0_rootBehindOut_27 rfl ?_
  refine z_lmul C d_X0_rootBehindOut_28 ?_
  refine z_lload (j := 2) C d_X0_rootBehindOut_29 rfl ?_
  refine z_lload (j := 1) C d_X0_rootBehindOut_31 rfl ?_
  refine z_lload_n (j := 0) C d_X0_rootBehindOut_33 rfl ?_
  refine z_lmul C d_X0_rootBehindOut_34 ?_
  refine z_lsub C d_X0_rootBehindOut_35 ?_
  obtain ⟨q36, hF, hf⟩ := bd hf
  refine z_callS1 (rest := []) C [aJ (v7 * v3), aJ (v7 - (v5 * v3))] k_X0_upwards tw_880 ⟨by decide, by decide⟩ (Nat.le_of_ble_eq_true rfl) d_X0_rootBehindOut_36 (c_X0_upwards C.inj hF) rfl ?_
  refine z_l2i C d_X0_rootBehindOut_39 ?_
  exact r_i C hr rfl d_X0_rootBehindOut_40 hf
/-- TickPools$Curve.rootBehindOut(IJJJ)I -/
def f_X0_rootBehindOut (p0 : Int32) (p1 : Int64) (p3 : Int64) (p5 : Int64) (S : Mem) : Option (Int32 × Mem) := (if p0 = 0 then ((f_X0_upwards (p5 * 100000) p1 S).bind fun q12 => (some ((((p3 - q12.1) : Int64).toInt32), q12.2))) else (f_X0_rootBehindOut_25  p3 p5 (p1 * 100000) S))
set_option maxRecDepth 20000 in
theorem c_X0_rootBehindOut {l : Launch} {Γ : GG} (hI : Inj Γ) {p0 : Int32} {p1 : Int64} {p3 : Int64} {p5 : Int64} {S : Mem} {q : Int32 × Mem} (hf : f_X0_rootBehindOut p0 p1 p3 p5 S = some q) : MM l Γ yX0_rootBehindOut cX0_rootBehindOut 9 (some .int) 1 23 [aI p0, aJ p1, aJ p3, aJ p5] S (some (aI q.1)) q.2 := by
  refine met_of hI "TickPools$Curve" rfl (by decide +kernel) (Nat.le_of_ble_eq_true rfl) (fun X hX C hr => ?_)
  unfold f_X0_rootBehindOut at hf
  show ZZ X Γ 9 _ S 0 [(0, aI p0), (1, aJ p1), (3, aJ p3), (5, aJ p5)] []
  refine z_iload_n (j := 0) C d_X0_rootBehindOut_0 rfl ?_
  refine z_if_ne (tgt := 18) C d_X0_rootBehindOut_1 (by decide) hf (fun c1 hf => ?_) (fun c1 hf => ?_)
  · refine z_lload_n (j := 1) C d_X0_rootBehindOut_18 rfl ?_
    refine z_ldc2 (v := 100000) C tw_874 d_X0_rootBehindOut_19 ?_
    refine z_lmul C d_X0_rootBehindOut_22 ?_
    refine z_lstore (lv' := [(7, aJ (p1 * 100000)), (0, aI p0), (1, aJ p1), (3, aJ p3), (5, aJ p5)]) C d_X0_rootBehindOut_23 (by decide) rfl ?_
    exact z_sub [3, 4, 0] rfl (t_X0_rootBehindOut_25 C hr  _ _ _ _ hf)
  · refine z_lload_n (j := 2) C d_X0_rootBehindOut_4 rfl ?_
    refine z_lload (j := 3) C d_X0_rootBehindOut_5 rfl ?_
    refine z_ldc2 (v := 100000) C tw_874 d_X0_rootBehindOut_7 ?_
    refine z_lmul C d_X0_rootBehindOut_10 ?_
    refine z_lload_n (j := 1) C d_X0_rootBehindOut_11 rfl ?_
    obtain ⟨q12, hF, hf⟩ := bd hf
    refine z_callS1 (rest := [aJ p3]) C [aJ (p5 * 100000), aJ p1] k_X0_upwards tw_880 ⟨by decide, by decide⟩ (Nat.le_of_ble_eq_true rfl) d_X0_rootBehindOut_12 (c_X0_upwards C.inj hF) rfl ?_
    refine z_lsub C d_X0_rootBehindOut_15 ?_
    refine z_l2i C d_X0_rootBehindOut_16 ?_
    exact r_i C hr rfl d_X0_rootBehindOut_17 hf
theorem d_X1_bestPool_0 : decode cX1_bestPool 0 = .ok (.iload_n 1, 1) := by decide +kernel
theorem d_X1_bestPool_1 : decode cX1_bestPool 1 = .ok (.ifCond .lt 29, 3) := by decide +kernel
theorem d_X1_bestPool_4 : decode cX1_bestPool 4 = .ok (.iload_n 1, 1) := by decide +kernel
theorem d_X1_bestPool_5 : decode cX1_bestPool 5 = .ok (.aload_n 0, 1) := by decide +kernel
theorem d_X1_bestPool_6 : decode cX1_bestPool 6 = .ok (.getfield 32, 3) := by decide +kernel
theorem d_X1_bestPool_9 : decode cX1_bestPool 9 = .ok (.if_icmp .ge 21, 3) := by decide +kernel
theorem d_X1_bestPool_12 : decode cX1_bestPool 12 = .ok (.iload_n 1, 1) := by decide +kernel
theorem d_X1_bestPool_13 : decode cX1_bestPool 13 = .ok (.aload_n 0, 1) := by decide +kernel
theorem d_X1_bestPool_14 : decode cX1_bestPool 14 = .ok (.getfield 15, 3) := by decide +kernel
theorem d_X1_bestPool_17 : decode cX1_bestPool 17 = .ok (.arraylength, 1) := by decide +kernel
theorem d_X1_bestPool_18 : decode cX1_bestPool 18 = .ok (.if_icmp .ge 12, 3) := by decide +kernel
theorem d_X1_bestPool_21 : decode cX1_bestPool 21 = .ok (.aload_n 0, 1) := by decide +kernel
theorem d_X1_bestPool_22 : decode cX1_bestPool 22 = .ok (.getfield 15, 3) := by decide +kernel
theorem d_X1_bestPool_25 : decode cX1_bestPool 25 = .ok (.iload_n 1, 1) := by decide +kernel
theorem d_X1_bestPool_26 : decode cX1_bestPool 26 = .ok (.iaload, 1) := by decide +kernel
theorem d_X1_bestPool_27 : decode cX1_bestPool 27 = .ok (.goto 5, 3) := by decide +kernel
theorem d_X1_bestPool_30 : decode cX1_bestPool 30 = .ok (.bipush (-2), 2) := by decide +kernel
theorem d_X1_bestPool_32 : decode cX1_bestPool 32 = .ok (.ireturn, 1) := by decide +kernel
def f_X1_bestPool_32 (s0 : Int32) (S : Mem) : Option (Int32 × Mem) := (some (s0, S))
set_option maxRecDepth 20000 in
theorem t_X1_bestPool_32 {X : MC} {Γ : GG} (C : CX X Γ cX1_bestPool 2 "TickPools$Finder" 0 0) (hr : X.2.2.2.2.2.2.2.2.1.sig.returnType = some .int) {q : Int32 × Mem} (s0 : Int32) (S : Mem) (hf : f_X1_bestPool_32 s0 S = some q) : ZZ X Γ 2 (QQ X Γ (some (aI q.1)) q.2) S 32 [] [aI s0] := by
  unfold f_X1_bestPool_32 at hf
  exact r_i C hr rfl d_X1_bestPool_32 hf
def f_X1_bestPool_30 (S : Mem) : Option (Int32 × Mem) := (f_X1_bestPool_32  (-2) S)
set_option maxRecDepth 20000 in
theorem t_X1_bestPool_30 {X : MC} {Γ : GG} (C : CX X Γ cX1_bestPool 2 "TickPools$Finder" 0 0) (hr : X.2.2.2.2.2.2.2.2.1.sig.returnType = some .int) {q : Int32 × Mem} (S : Mem) (hf : f_X1_bestPool_30 S = some q) : ZZ X Γ 2 (QQ X Γ (some (aI q.1)) q.2) S 30 [] [] := by
  unfold f_X1_bestPool_30 at hf
  refine z_bipush (v := (-2)) C d_X1_bestPool_30 (by decide) ?_
  exact z_sub [] rfl (t_X1_bestPool_32 C hr  _ _ hf)
/-- TickPools$Finder.bestPool(I)I -/
def f_X1_bestPool (p1 : Int32) (S : Mem) : Option (Int32 × Mem) := (if p1 < 0 then (f_X1_bestPool_30  S) else (if (gI S 14 2) ≤ p1 then (f_X1_bestPool_30  S) else (if 3 ≤ p1 then (f_X1_bestPool_30  S) else (if inb p1 3 = true then (f_X1_bestPool_32  (gI S 15 ((p1 : Int32).toNatClampNeg)) S) else none))))
set_option maxRecDepth 20000 in
theorem c_X1_bestPool {l : Launch} {Γ : GG} (hI : Inj Γ) {p1 : Int32} {S : Mem} {q : Int32 × Mem} (hf : f_X1_bestPool p1 S = some q) : MM l Γ yX1_bestPool cX1_bestPool 2 (some .int) 0 0 [aR 14, aI p1] S (some (aI q.1)) q.2 := by
  refine met_of hI "TickPools$Finder" rfl (by decide +kernel) (Nat.le_of_ble_eq_true rfl) (fun X hX C hr => ?_)
  unfold f_X1_bestPool at hf
  show ZZ X Γ 2 _ S 0 [(0, aR 14), (1, aI p1)] []
  refine z_iload_n (j := 1) C d_X1_bestPool_0 rfl ?_
  refine z_if_lt (tgt := 30) C d_X1_bestPool_1 (by decide) hf (fun c1 hf => ?_) (fun c1 hf => ?_)
  · exact z_sub [] rfl (t_X1_bestPool_30 C hr  _ hf)
  · refine z_iload_n (j := 1) C d_X1_bestPool_4 rfl ?_
    refine z_aload_n (j := 0) C d_X1_bestPool_5 rfl ?_
    refine zg_X1_bestLength C rfl tw_433 d_X1_bestPool_6 ?_
    refine z_icmp_ge (tgt := 30) C d_X1_bestPool_9 (by decide) hf (fun c9 hf => ?_) (fun c9 hf => ?_)
    · exact z_sub [] rfl (t_X1_bestPool_30 C hr  _ hf)
    · refine z_iload_n (j := 1) C d_X1_bestPool_12 rfl ?_
      refine z_aload_n (j := 0) C d_X1_bestPool_13 rfl ?_
      refine zg_X1_best C rfl tw_436 d_X1_bestPool_14 ?_
      refine z_alen (v := 3) C rfl (by decide) (by decide) d_X1_bestPool_17 ?_
      refine z_icmp_ge (tgt := 30) C d_X1_bestPool_18 (by decide) hf (fun c18 hf => ?_) (fun c18 hf => ?_)
      · exact z_sub [] rfl (t_X1_bestPool_30 C hr  _ hf)
      · refine z_aload_n (j := 0) C d_X1_bestPool_21 rfl ?_
        refine zg_X1_best C rfl tw_436 d_X1_bestPool_22 ?_
        refine z_iload_n (j := 1) C d_X1_bestPool_25 rfl ?_
        obtain ⟨hi26_0, hf⟩ := gd hf
        refine z_iald C rfl hi26_0 d_X1_bestPool_26 ?_
        refine z_goto (tgt := 32) C d_X1_bestPool_27 (by decide) ?_
        exact z_sub [] rfl (t_X1_bestPool_32 C hr  _ _ hf)
theorem d_X1_bestCode_0 : decode cX1_bestCode 0 = .ok (.iconst 1, 1) := by decide +kernel
theorem d_X1_bestCode_1 : decode cX1_bestCode 1 = .ok (.istore_n 1, 1) := by decide +kernel
theorem d_X1_bestCode_2 : decode cX1_bestCode 2 = .ok (.iconst 0, 1) := by decide +kernel
theorem d_X1_bestCode_3 : decode cX1_bestCode 3 = .ok (.istore_n 2, 1) := by decide +kernel
theorem d_X1_bestCode_4 : decode cX1_bestCode 4 = .ok (.iload_n 2, 1) := by decide +kernel
theorem d_X1_bestCode_5 : decode cX1_bestCode 5 = .ok (.aload_n 0, 1) := by decide +kernel
theorem d_X1_bestCode_6 : decode cX1_bestCode 6 = .ok (.getfield 32, 3) := by decide +kernel
theorem d_X1_bestCode_9 : decode cX1_bestCode 9 = .ok (.if_icmp .ge 32, 3) := by decide +kernel
theorem d_X1_bestCode_12 : decode cX1_bestCode 12 = .ok (.iload_n 2, 1) := by decide +kernel
theorem d_X1_bestCode_13 : decode cX1_bestCode 13 = .ok (.aload_n 0, 1) := by decide +kernel
theorem d_X1_bestCode_14 : decode cX1_bestCode 14 = .ok (.getfield 15, 3) := by decide +kernel
theorem d_X1_bestCode_17 : decode cX1_bestCode 17 = .ok (.arraylength, 1) := by decide +kernel
theorem d_X1_bestCode_18 : decode cX1_bestCode 18 = .ok (.if_icmp .ge 23, 3) := by decide +kernel
theorem d_X1_bestCode_21 : decode cX1_bestCode 21 = .ok (.iload_n 1, 1) := by decide +kernel
theorem d_X1_bestCode_22 : decode cX1_bestCode 22 = .ok (.bipush 6, 2) := by decide +kernel
theorem d_X1_bestCode_24 : decode cX1_bestCode 24 = .ok (.imul, 1) := by decide +kernel
theorem d_X1_bestCode_25 : decode cX1_bestCode 25 = .ok (.aload_n 0, 1) := by decide +kernel
theorem d_X1_bestCode_26 : decode cX1_bestCode 26 = .ok (.getfield 15, 3) := by decide +kernel
theorem d_X1_bestCode_29 : decode cX1_bestCode 29 = .ok (.iload_n 2, 1) := by decide +kernel
theorem d_X1_bestCode_30 : decode cX1_bestCode 30 = .ok (.iaload, 1) := by decide +kernel
theorem d_X1_bestCode_31 : decode cX1_bestCode 31 = .ok (.iadd, 1) := by decide +kernel
theorem d_X1_bestCode_32 : decode cX1_bestCode 32 = .ok (.iconst 1, 1) := by decide +kernel
theorem d_X1_bestCode_33 : decode cX1_bestCode 33 = .ok (.iadd, 1) := by decide +kernel
theorem d_X1_bestCode_34 : decode cX1_bestCode 34 = .ok (.istore_n 1, 1) := by decide +kernel
theorem d_X1_bestCode_35 : decode cX1_bestCode 35 = .ok (.iinc 2 1, 3) := by decide +kernel
theorem d_X1_bestCode_38 : decode cX1_bestCode 38 = .ok (.goto (-34), 3) := by decide +kernel
theorem d_X1_bestCode_41 : decode cX1_bestCode 41 = .ok (.iload_n 1, 1) := by decide +kernel
theorem d_X1_bestCode_42 : decode cX1_bestCode 42 = .ok (.ireturn, 1) := by decide +kernel
def f_X1_bestCode_35 (k4 : Int32 → Int32 → Mem → Option (Int32 × Mem)) (v1 : Int32) (v2 : Int32) (S : Mem) : Option (Int32 × Mem) := (k4 v1 (v2 + 1) S)
set_option maxRecDepth 20000 in
theorem t_X1_bestCode_35 {X : MC} {Γ : GG} (C : CX X Γ cX1_bestCode 3 "TickPools$Finder" 0 0) (hr : X.2.2.2.2.2.2.2.2.1.sig.returnType = some .int) {k4 : Int32 → Int32 → Mem → Option (Int32 × Mem)} {q : Int32 × Mem} (hk4 : ∀ (v1 : Int32) (v2 : Int32) (S : Mem), k4 v1 v2 S = some q → ZZ X Γ 3 (QQ X Γ (some (aI q.1)) q.2) S 4 [(0, aR 14), (1, aI v1), (2, aI v2)] []) (v1 : Int32) (v2 : Int32) (S : Mem) (hf : f_X1_bestCode_35 k4 v1 v2 S = some q) : ZZ X Γ 3 (QQ X Γ (some (aI q.1)) q.2) S 35 [(0, aR 14), (1, aI v1), (2, aI v2)] [] := by
  unfold f_X1_bestCode_35 at hf
  refine z_iinc (j := 2) (v := (v2 + 1)) (lv' := [(2, aI (v2 + 1)), (0, aR 14), (1, aI v1)]) C d_X1_bestCode_35 rfl rfl (by decide) rfl ?_
  refine z_goto (tgt := 4) C d_X1_bestCode_38 (by decide) ?_
  exact z_sub [1, 2, 0] rfl (hk4 _ _ _ hf)
def f_X1_bestCode_41 (v1 : Int32) (S : Mem) : Option (Int32 × Mem) := (some (v1, S))
set_option maxRecDepth 20000 in
theorem t_X1_bestCode_41 {X : MC} {Γ : GG} (C : CX X Γ cX1_bestCode 3 "TickPools$Finder" 0 0) (hr : X.2.2.2.2.2.2.2.2.1.sig.returnType = some .int) {q : Int32 × Mem} (v1 : Int32) (S : Mem) (hf : f_X1_bestCode_41 v1 S = some q) : ZZ X Γ 3 (QQ X Γ (some (aI q.1)) q.2) S 41 [(1, aI v1)] [] := by
  unfold f_X1_bestCode_41 at hf
  refine z_iload_n (j := 0) C d_X1_bestCode_41 rfl ?_
  exact r_i C hr rfl d_X1_bestCode_42 hf
def f_X1_bestCode_4B (k4 : Int32 → Int32 → Mem → Option (Int32 × Mem)) (v1 : Int32) (v2 : Int32) (S : Mem) : Option (Int32 × Mem) := (if (gI S 14 2) ≤ v2 then (f_X1_bestCode_41  v1 S) else (if 3 ≤ v2 then (f_X1_bestCode_41  v1 S) else (if inb v2 3 = true then (f_X1_bestCode_35 k4 (((v1 * 6) + (gI S 15 ((v2 : Int32).toNatClampNeg))) + 1) v2 S) else none)))
set_option maxRecDepth 20000 in
theorem t_X1_bestCode_4B {X : MC} {Γ : GG} (C : CX X Γ cX1_bestCode 3 "TickPools$Finder" 0 0) (hr : X.2.2.2.2.2.2.2.2.1.sig.returnType = some .int) {k4 : Int32 → Int32 → Mem → Option (Int32 × Mem)} {q : Int32 × Mem} (hk4 : ∀ (v1 : Int32) (v2 : Int32) (S : Mem), k4 v1 v2 S = some q → ZZ X Γ 3 (QQ X Γ (some (aI q.1)) q.2) S 4 [(0, aR 14), (1, aI v1), (2, aI v2)] []) (v1 : Int32) (v2 : Int32) (S : Mem) (hf : f_X1_bestCode_4B k4 v1 v2 S = some q) : ZZ X Γ 3 (QQ X Γ (some (aI q.1)) q.2) S 4 [(0, aR 14), (1, aI v1), (2, aI v2)] [] := by
  unfold f_X1_bestCode_4B at hf
  refine z_iload_n (j := 2) C d_X1_bestCode_4 rfl ?_
  refine z_aload_n (j := 0) C d_X1_bestCode_5 rfl ?_
  refine zg_X1_bestLength C rfl tw_433 d_X1_bestCode_6 ?_
  refine z_icmp_ge (tgt := 41) C d_X1_bestCode_9 (by decide) hf (fun c9 hf => ?_) (fun c9 hf => ?_)
  · exact z_sub [1] rfl (t_X1_bestCode_41 C hr  _ _ hf)
  · refine z_iload_n (j := 2) C d_X1_bestCode_12 rfl ?_
    refine z_aload_n (j := 0) C d_X1_bestCode_13 rfl ?_
    refine zg_X1_best C rfl tw_436 d_X1_bestCode_14 ?_
    refine z_alen (v := 3) C rfl (by decide) (by decide) d_X1_bestCode_17 ?_
    refine z_icmp_ge (tgt := 41) C d_X1_bestCode_18 (by decide) hf (fun c18 hf => ?_) (fun c18 hf => ?_)
    · exact z_sub [1] rfl (t_X1_bestCode_41 C hr  _ _ hf)
    · refine z_iload_n (j := 1) C d_X1_bestCode_21 rfl ?_
      refine z_bipush (v := 6) C d_X1_bestCode_22 (by decide) ?_
      refine z_imul C d_X1_bestCode_24 ?_
      refine z_aload_n (j := 0) C d_X1_bestCode_25 rfl ?_
      refine zg_X1_best C rfl tw_436 d_X1_bestCode_26 ?_
      refine z_iload_n (j := 2) C d_X1_bestCode_29 rfl ?_
      obtain ⟨hi30_0, hf⟩ := gd hf
      refine z_iald C rfl hi30_0 d_X1_bestCode_30 ?_
      refine z_iadd C d_X1_bestCode_31 ?_
      refine z_iconst (v := 1) C d_X1_bestCode_32 (by decide) ?_
      refine z_iadd C d_X1_bestCode_33 ?_
      refine z_istore_n (lv' := [(1, aI (((v1 * 6) + (gI S 15 ((v2 : Int32).toNatClampNeg))) + 1)), (0, aR 14), (2, aI v2)]) C d_X1_bestCode_34 (by decide) rfl ?_
      exact z_sub [1, 0, 2] rfl (t_X1_bestCode_35 C hr hk4 _ _ _ hf)
def f_X1_bestCode_4 : Nat → Int32 → Int32 → Mem → Option (Int32 × Mem)
  | 0 => fun _ _ _ => none
  | n + 1 => f_X1_bestCode_4B (f_X1_bestCode_4 n)
theorem t_X1_bestCode_4 {X : MC} {Γ : GG} (C : CX X Γ cX1_bestCode 3 "TickPools$Finder" 0 0) (hr : X.2.2.2.2.2.2.2.2.1.sig.returnType = some .int) {q : Int32 × Mem} : ∀ (n : Nat) (v1 : Int32) (v2 : Int32) (S : Mem) (hf : f_X1_bestCode_4 n v1 v2 S = some q), ZZ X Γ 3 (QQ X Γ (some (aI q.1)) q.2) S 4 [(0, aR 14), (1, aI v1), (2, aI v2)] []
  | 0, _, _, _, hf => nomatch (show (none : Option (Int32 × Mem)) = some q from hf)
  | n + 1, v1, v2, S, hf => t_X1_bestCode_4B C hr (t_X1_bestCode_4 C hr n) v1 v2 S hf
/-- TickPools$Finder.bestCode()I -/
def f_X1_bestCode (S : Mem) : Option (Int32 × Mem) := (f_X1_bestCode_4  100000 1 0 S)
set_option maxRecDepth 20000 in
theorem c_X1_bestCode {l : Launch} {Γ : GG} (hI : Inj Γ) {S : Mem} {q : Int32 × Mem} (hf : f_X1_bestCode S = some q) : MM l Γ yX1_bestCode cX1_bestCode 3 (some .int) 0 0 [aR 14] S (some (aI q.1)) q.2 := by
  refine met_of hI "TickPools$Finder" rfl (by decide +kernel) (Nat.le_of_ble_eq_true rfl) (fun X hX C hr => ?_)
  unfold f_X1_bestCode at hf
  show ZZ X Γ 3 _ S 0 [(0, aR 14)] []
  refine z_iconst (v := 1) C d_X1_bestCode_0 (by decide) ?_
  refine z_istore_n (lv' := [(1, aI 1), (0, aR 14)]) C d_X1_bestCode_1 (by decide) rfl ?_
  refine z_iconst (v := 0) C d_X1_bestCode_2 (by decide) ?_
  refine z_istore_n (lv' := [(2, aI 0), (1, aI 1), (0, aR 14)]) C d_X1_bestCode_3 (by decide) rfl ?_
  exact z_sub [2, 1, 0] rfl (t_X1_bestCode_4 C hr  100000 _ _ _ hf)
theorem d_X1_forget_0 : decode cX1_forget 0 = .ok (.aload_n 0, 1) := by decide +kernel
theorem d_X1_forget_1 : decode cX1_forget 1 = .ok (.iload_n 1, 1) := by decide +kernel
theorem d_X1_forget_2 : decode cX1_forget 2 = .ok (.i2l, 1) := by decide +kernel
theorem d_X1_forget_3 : decode cX1_forget 3 = .ok (.putfield 36, 3) := by decide +kernel
theorem d_X1_forget_6 : decode cX1_forget 6 = .ok (.aload_n 0, 1) := by decide +kernel
theorem d_X1_forget_7 : decode cX1_forget 7 = .ok (.iconst 0, 1) := by decide +kernel
theorem d_X1_forget_8 : decode cX1_forget 8 = .ok (.putfield 40, 3) := by decide +kernel
theorem d_X1_forget_11 : decode cX1_forget 11 = .ok (.aload_n 0, 1) := by decide +kernel
theorem d_X1_forget_12 : decode cX1_forget 12 = .ok (.iconst 0, 1) := by decide +kernel
theorem d_X1_forget_13 : decode cX1_forget 13 = .ok (.putfield 32, 3) := by decide +kernel
theorem d_X1_forget_16 : decode cX1_forget 16 = .ok (.return_, 1) := by decide +kernel
/-- TickPools$Finder.forget(I)V -/
def f_X1_forget (p1 : Int32) (S : Mem) : Option (Unit × Mem) := (some ((), (sI (sI (sL S 14 0 (p1.toInt64)) 14 1 0) 14 2 0)))
set_option maxRecDepth 20000 in
theorem c_X1_forget {l : Launch} {Γ : GG} (hI : Inj Γ) {p1 : Int32} {S : Mem} {q : Unit × Mem} (hf : f_X1_forget p1 S = some q) : MM l Γ yX1_forget cX1_forget 2 (none) 0 0 [aR 14, aI p1] S none q.2 := by
  refine met_of hI "TickPools$Finder" rfl (by decide +kernel) (Nat.le_of_ble_eq_true rfl) (fun X hX C hr => ?_)
  unfold f_X1_forget at hf
  show ZZ X Γ 2 _ S 0 [(0, aR 14), (1, aI p1)] []
  refine z_aload_n (j := 0) C d_X1_forget_0 rfl ?_
  refine z_iload_n (j := 1) C d_X1_forget_1 rfl ?_
  refine z_i2l C d_X1_forget_2 ?_
  refine zp_X1_bestGain C rfl tw_429 d_X1_forget_3 ?_
  refine z_aload_n (j := 0) C d_X1_forget_6 rfl ?_
  refine z_iconst (v := 0) C d_X1_forget_7 (by decide) ?_
  refine zp_X1_bestAmount C rfl tw_431 d_X1_forget_8 ?_
  refine z_aload_n (j := 0) C d_X1_forget_11 rfl ?_
  refine z_iconst (v := 0) C d_X1_forget_12 (by decide) ?_
  refine zp_X1_bestLength C rfl tw_433 d_X1_forget_13 ?_
  exact r_v C hr d_X1_forget_16 hf
theorem d_X2_poolAt_0 : decode cX2_poolAt 0 = .ok (.iload_n 1, 1) := by decide +kernel
theorem d_X2_poolAt_1 : decode cX2_poolAt 1 = .ok (.ifCond .lt 29, 3) := by decide +kernel
theorem d_X2_poolAt_4 : decode cX2_poolAt 4 = .ok (.iload_n 1, 1) := by decide +kernel
theorem d_X2_poolAt_5 : decode cX2_poolAt 5 = .ok (.aload_n 0, 1) := by decide +kernel
theorem d_X2_poolAt_6 : decode cX2_poolAt 6 = .ok (.getfield 36, 3) := by decide +kernel
theorem d_X2_poolAt_9 : decode cX2_poolAt 9 = .ok (.if_icmp .ge 21, 3) := by decide +kernel
theorem d_X2_poolAt_12 : decode cX2_poolAt 12 = .ok (.iload_n 1, 1) := by decide +kernel
theorem d_X2_poolAt_13 : decode cX2_poolAt 13 = .ok (.aload_n 0, 1) := by decide +kernel
theorem d_X2_poolAt_14 : decode cX2_poolAt 14 = .ok (.getfield 17, 3) := by decide +kernel
theorem d_X2_poolAt_17 : decode cX2_poolAt 17 = .ok (.arraylength, 1) := by decide +kernel
theorem d_X2_poolAt_18 : decode cX2_poolAt 18 = .ok (.if_icmp .ge 12, 3) := by decide +kernel
theorem d_X2_poolAt_21 : decode cX2_poolAt 21 = .ok (.aload_n 0, 1) := by decide +kernel
theorem d_X2_poolAt_22 : decode cX2_poolAt 22 = .ok (.getfield 17, 3) := by decide +kernel
theorem d_X2_poolAt_25 : decode cX2_poolAt 25 = .ok (.iload_n 1, 1) := by decide +kernel
theorem d_X2_poolAt_26 : decode cX2_poolAt 26 = .ok (.aaload, 1) := by decide +kernel
theorem d_X2_poolAt_27 : decode cX2_poolAt 27 = .ok (.goto 4, 3) := by decide +kernel
theorem d_X2_poolAt_30 : decode cX2_poolAt 30 = .ok (.aconst_null, 1) := by decide +kernel
theorem d_X2_poolAt_31 : decode cX2_poolAt 31 = .ok (.areturn, 1) := by decide +kernel
def f_X2_poolAt_31 (s0 : Nat) (S : Mem) : Option (Nat × Mem) := (some (s0, S))
set_option maxRecDepth 20000 in
theorem t_X2_poolAt_31 {X : MC} {Γ : GG} (C : CX X Γ cX2_poolAt 2 "TickPools$Market" 0 0) (hr : X.2.2.2.2.2.2.2.2.1.sig.returnType = some (.object "TickPools$Pool")) {q : Nat × Mem} (s0 : Nat) (S : Mem) (hf : f_X2_poolAt_31 s0 S = some q) : ZZ X Γ 2 (QQ X Γ (some (aR q.1)) q.2) S 31 [] [aR s0] := by
  unfold f_X2_poolAt_31 at hf
  exact r_a C hr d_X2_poolAt_31 hf
def f_X2_poolAt_30 (S : Mem) : Option (Nat × Mem) := (f_X2_poolAt_31  0 S)
set_option maxRecDepth 20000 in
theorem t_X2_poolAt_30 {X : MC} {Γ : GG} (C : CX X Γ cX2_poolAt 2 "TickPools$Market" 0 0) (hr : X.2.2.2.2.2.2.2.2.1.sig.returnType = some (.object "TickPools$Pool")) {q : Nat × Mem} (S : Mem) (hf : f_X2_poolAt_30 S = some q) : ZZ X Γ 2 (QQ X Γ (some (aR q.1)) q.2) S 30 [] [] := by
  unfold f_X2_poolAt_30 at hf
  refine z_null C d_X2_poolAt_30 ?_
  exact z_sub [] rfl (t_X2_poolAt_31 C hr  _ _ hf)
/-- TickPools$Market.poolAt(I)LTickPools$Pool; -/
def f_X2_poolAt (h0 : Nat) (p1 : Int32) (S : Mem) : Option (Nat × Mem) := (if p1 < 0 then (f_X2_poolAt_30  S) else (if kd h0 = (1, 9) then (if (gI S h0 2) ≤ p1 then (f_X2_poolAt_30  S) else (if 5 ≤ p1 then (f_X2_poolAt_30  S) else (if inb p1 5 = true then (f_X2_poolAt_31  ((h0 + 2) + 2 + 5 * ((p1 : Int32).toNatClampNeg)) S) else none))) else none))
set_option maxRecDepth 20000 in
theorem c_X2_poolAt {l : Launch} {Γ : GG} (hI : Inj Γ) {h0 : Nat} {p1 : Int32} {S : Mem} {q : Nat × Mem} (hf : f_X2_poolAt h0 p1 S = some q) : MM l Γ yX2_poolAt cX2_poolAt 2 (some (.object "TickPools$Pool")) 0 0 [aR h0, aI p1] S (some (aR q.1)) q.2 := by
  refine met_of hI "TickPools$Market" rfl (by decide +kernel) (Nat.le_of_ble_eq_true rfl) (fun X hX C hr => ?_)
  unfold f_X2_poolAt at hf
  show ZZ X Γ 2 _ S 0 [(0, aR h0), (1, aI p1)] []
  refine z_iload_n (j := 1) C d_X2_poolAt_0 rfl ?_
  refine z_if_lt (tgt := 30) C d_X2_poolAt_1 (by decide) hf (fun c1 hf => ?_) (fun c1 hf => ?_)
  · exact z_sub [] rfl (t_X2_poolAt_30 C hr  _ hf)
  · refine z_iload_n (j := 1) C d_X2_poolAt_4 rfl ?_
    refine z_aload_n (j := 0) C d_X2_poolAt_5 rfl ?_
    obtain ⟨hg6_0, hf⟩ := gd hf
    refine zg_X2_pools C hg6_0 tw_196 d_X2_poolAt_6 ?_
    refine z_icmp_ge (tgt := 30) C d_X2_poolAt_9 (by decide) hf (fun c9 hf => ?_) (fun c9 hf => ?_)
    · exact z_sub [] rfl (t_X2_poolAt_30 C hr  _ hf)
    · refine z_iload_n (j := 1) C d_X2_poolAt_12 rfl ?_
      refine z_aload_n (j := 0) C d_X2_poolAt_13 rfl ?_
      refine zg_X2_poolRow C hg6_0 tw_209 d_X2_poolAt_14 ?_
      refine z_alen (v := 5) C (kdM2 hg6_0) (by decide) (by decide) d_X2_poolAt_17 ?_
      refine z_icmp_ge (tgt := 30) C d_X2_poolAt_18 (by decide) hf (fun c18 hf => ?_) (fun c18 hf => ?_)
      · exact z_sub [] rfl (t_X2_poolAt_30 C hr  _ hf)
      · refine z_aload_n (j := 0) C d_X2_poolAt_21 rfl ?_
        refine zg_X2_poolRow C hg6_0 tw_209 d_X2_poolAt_22 ?_
        refine z_iload_n (j := 1) C d_X2_poolAt_25 rfl ?_
        obtain ⟨hi26_0, hf⟩ := gd hf
        refine z_aldP C (kdM2 hg6_0) hi26_0 d_X2_poolAt_26 ?_
        refine z_goto (tgt := 31) C d_X2_poolAt_27 (by decide) ?_
        exact z_sub [] rfl (t_X2_poolAt_31 C hr  _ _ hf)
theorem d_X4_sideOf_0 : decode cX4_sideOf 0 = .ok (.iload_n 1, 1) := by decide +kernel
theorem d_X4_sideOf_1 : decode cX4_sideOf 1 = .ok (.aload_n 0, 1) := by decide +kernel
theorem d_X4_sideOf_2 : decode cX4_sideOf 2 = .ok (.getfield 44, 3) := by decide +kernel
theorem d_X4_sideOf_5 : decode cX4_sideOf 5 = .ok (.if_icmp .ne 5, 3) := by decide +kernel
theorem d_X4_sideOf_8 : decode cX4_sideOf 8 = .ok (.iconst 0, 1) := by decide +kernel
theorem d_X4_sideOf_9 : decode cX4_sideOf 9 = .ok (.ireturn, 1) := by decide +kernel
theorem d_X4_sideOf_10 : decode cX4_sideOf 10 = .ok (.iload_n 1, 1) := by decide +kernel
theorem d_X4_sideOf_11 : decode cX4_sideOf 11 = .ok (.aload_n 0, 1) := by decide +kernel
theorem d_X4_sideOf_12 : decode cX4_sideOf 12 = .ok (.getfield 47, 3) := by decide +kernel
theorem d_X4_sideOf_15 : decode cX4_sideOf 15 = .ok (.if_icmp .ne 7, 3) := by decide +kernel
theorem d_X4_sideOf_18 : decode cX4_sideOf 18 = .ok (.iconst 1, 1) := by decide +kernel
theorem d_X4_sideOf_19 : decode cX4_sideOf 19 = .ok (.goto 4, 3) := by decide +kernel
theorem d_X4_sideOf_22 : decode cX4_sideOf 22 = .ok (.iconst (-1), 1) := by decide +kernel
theorem d_X4_sideOf_23 : decode cX4_sideOf 23 = .ok (.ireturn, 1) := by decide +kernel
def f_X4_sideOf_23 (s0 : Int32) (S : Mem) : Option (Int32 × Mem) := (some (s0, S))
set_option maxRecDepth 20000 in
theorem t_X4_sideOf_23 {X : MC} {Γ : GG} (C : CX X Γ cX4_sideOf 2 "TickPools$Pool" 0 0) (hr : X.2.2.2.2.2.2.2.2.1.sig.returnType = some .int) {q : Int32 × Mem} (s0 : Int32) (S : Mem) (hf : f_X4_sideOf_23 s0 S = some q) : ZZ X Γ 2 (QQ X Γ (some (aI q.1)) q.2) S 23 [] [aI s0] := by
  unfold f_X4_sideOf_23 at hf
  exact r_i C hr rfl d_X4_sideOf_23 hf
/-- TickPools$Pool.sideOf(I)I -/
def f_X4_sideOf (h0 : Nat) (p1 : Int32) (S : Mem) : Option (Int32 × Mem) := (if kd h0 = (3, 12) then (if p1 = (gI S h0 0) then (some (0, S)) else (if p1 = (gI S h0 1) then (f_X4_sideOf_23  1 S) else (f_X4_sideOf_23  (-1) S))) else none)
set_option maxRecDepth 20000 in
theorem c_X4_sideOf {l : Launch} {Γ : GG} (hI : Inj Γ) {h0 : Nat} {p1 : Int32} {S : Mem} {q : Int32 × Mem} (hf : f_X4_sideOf h0 p1 S = some q) : MM l Γ yX4_sideOf cX4_sideOf 2 (some .int) 0 0 [aR h0, aI p1] S (some (aI q.1)) q.2 := by
  refine met_of hI "TickPools$Pool" rfl (by decide +kernel) (Nat.le_of_ble_eq_true rfl) (fun X hX C hr => ?_)
  unfold f_X4_sideOf at hf
  show ZZ X Γ 2 _ S 0 [(0, aR h0), (1, aI p1)] []
  refine z_iload_n (j := 1) C d_X4_sideOf_0 rfl ?_
  refine z_aload_n (j := 0) C d_X4_sideOf_1 rfl ?_
  obtain ⟨hg2_0, hf⟩ := gd hf
  refine zg_X4_first C hg2_0 tw_74 d_X4_sideOf_2 ?_
  refine z_icmp_ne (tgt := 10) C d_X4_sideOf_5 (by decide) hf (fun c5 hf => ?_) (fun c5 hf => ?_)
  · refine z_iload_n (j := 1) C d_X4_sideOf_10 rfl ?_
    refine z_aload_n (j := 0) C d_X4_sideOf_11 rfl ?_
    refine zg_X4_second C hg2_0 tw_78 d_X4_sideOf_12 ?_
    refine z_icmp_ne (tgt := 22) C d_X4_sideOf_15 (by decide) hf (fun c15 hf => ?_) (fun c15 hf => ?_)
    · refine z_iconst (v := (-1)) C d_X4_sideOf_22 (by decide) ?_
      exact z_sub [] rfl (t_X4_sideOf_23 C hr  _ _ hf)
    · refine z_iconst (v := 1) C d_X4_sideOf_18 (by decide) ?_
      refine z_goto (tgt := 23) C d_X4_sideOf_19 (by decide) ?_
      exact z_sub [] rfl (t_X4_sideOf_23 C hr  _ _ hf)
  · refine z_iconst (v := 0) C d_X4_sideOf_8 (by decide) ?_
    exact r_i C hr rfl d_X4_sideOf_9 hf
theorem d_X4_thingOn_0 : decode cX4_thingOn 0 = .ok (.iload_n 1, 1) := by decide +kernel
theorem d_X4_thingOn_1 : decode cX4_thingOn 1 = .ok (.ifCond .ne 10, 3) := by decide +kernel
theorem d_X4_thingOn_4 : decode cX4_thingOn 4 = .ok (.aload_n 0, 1) := by decide +kernel
theorem d_X4_thingOn_5 : decode cX4_thingOn 5 = .ok (.getfield 44, 3) := by decide +kernel
theorem d_X4_thingOn_8 : decode cX4_thingOn 8 = .ok (.goto 7, 3) := by decide +kernel
theorem d_X4_thingOn_11 : decode cX4_thingOn 11 = .ok (.aload_n 0, 1) := by decide +kernel
theorem d_X4_thingOn_12 : decode cX4_thingOn 12 = .ok (.getfield 47, 3) := by decide +kernel
theorem d_X4_thingOn_15 : decode cX4_thingOn 15 = .ok (.ireturn, 1) := by decide +kernel
def f_X4_thingOn_15 (s0 : Int32) (S : Mem) : Option (Int32 × Mem) := (some (s0, S))
set_option maxRecDepth 20000 in
theorem t_X4_thingOn_15 {X : MC} {Γ : GG} (C : CX X Γ cX4_thingOn 2 "TickPools$Pool" 0 0) (hr : X.2.2.2.2.2.2.2.2.1.sig.returnType = some .int) {q : Int32 × Mem} (s0 : Int32) (S : Mem) (hf : f_X4_thingOn_15 s0 S = some q) : ZZ X Γ 2 (QQ X Γ (some (aI q.1)) q.2) S 15 [] [aI s0] := by
  unfold f_X4_thingOn_15 at hf
  exact r_i C hr rfl d_X4_thingOn_15 hf
/-- TickPools$Pool.thingOn(I)I -/
def f_X4_thingOn (h0 : Nat) (p1 : Int32) (S : Mem) : Option (Int32 × Mem) := (if p1 = 0 then (if kd h0 = (3, 12) then (f_X4_thingOn_15  (gI S h0 0) S) else none) else (if kd h0 = (3, 12) then (f_X4_thingOn_15  (gI S h0 1) S) else none))
set_option maxRecDepth 20000 in
theorem c_X4_thingOn {l : Launch} {Γ : GG} (hI : Inj Γ) {h0 : Nat} {p1 : Int32} {S : Mem} {q : Int32 × Mem} (hf : f_X4_thingOn h0 p1 S = some q) : MM l Γ yX4_thingOn cX4_thingOn 2 (some .int) 0 0 [aR h0, aI p1] S (some (aI q.1)) q.2 := by
  refine met_of hI "TickPools$Pool" rfl (by decide +kernel) (Nat.le_of_ble_eq_true rfl) (fun X hX C hr => ?_)
  unfold f_X4_thingOn at hf
  show ZZ X Γ 2 _ S 0 [(0, aR h0), (1, aI p1)] []
  refine z_iload_n (j := 1) C d_X4_thingOn_0 rfl ?_
  refine z_if_ne (tgt := 11) C d_X4_thingOn_1 (by decide) hf (fun c1 hf => ?_) (fun c1 hf => ?_)
  · refine z_aload_n (j := 0) C d_X4_thingOn_11 rfl ?_
    obtain ⟨hg12_0, hf⟩ := gd hf
    refine zg_X4_second C hg12_0 tw_78 d_X4_thingOn_12 ?_
    exact z_sub [] rfl (t_X4_thingOn_15 C hr  _ _ hf)
  · refine z_aload_n (j := 0) C d_X4_thingOn_4 rfl ?_
    obtain ⟨hg5_0, hf⟩ := gd hf
    refine zg_X4_first C hg5_0 tw_74 d_X4_thingOn_5 ?_
    refine z_goto (tgt := 15) C d_X4_thingOn_8 (by decide) ?_
    exact z_sub [] rfl (t_X4_thingOn_15 C hr  _ _ hf)
theorem d_X1_otherThing_0 : decode cX1_otherThing 0 = .ok (.iconst 0, 1) := by decide +kernel
theorem d_X1_otherThing_1 : decode cX1_otherThing 1 = .ok (.istore 4, 2) := by decide +kernel
theorem d_X1_otherThing_3 : decode cX1_otherThing 3 = .ok (.iload 4, 2) := by decide +kernel
theorem d_X1_otherThing_5 : decode cX1_otherThing 5 = .ok (.iload_n 2, 1) := by decide +kernel
theorem d_X1_otherThing_6 : decode cX1_otherThing 6 = .ok (.if_icmp .ge 32, 3) := by decide +kernel
theorem d_X1_otherThing_9 : decode cX1_otherThing 9 = .ok (.iload 4, 2) := by decide +kernel
theorem d_X1_otherThing_11 : decode cX1_otherThing 11 = .ok (.aload_n 0, 1) := by decide +kernel
theorem d_X1_otherThing_12 : decode cX1_otherThing 12 = .ok (.getfield 19, 3) := by decide +kernel
theorem d_X1_otherThing_15 : decode cX1_otherThing 15 = .ok (.arraylength, 1) := by decide +kernel
theorem d_X1_otherThing_16 : decode cX1_otherThing 16 = .ok (.if_icmp .ge 22, 3) := by decide +kernel
theorem d_X1_otherThing_19 : decode cX1_otherThing 19 = .ok (.aload_n 0, 1) := by decide +kernel
theorem d_X1_otherThing_20 : decode cX1_otherThing 20 = .ok (.getfield 19, 3) := by decide +kernel
theorem d_X1_otherThing_23 : decode cX1_otherThing 23 = .ok (.iload 4, 2) := by decide +kernel
theorem d_X1_otherThing_25 : decode cX1_otherThing 25 = .ok (.iaload, 1) := by decide +kernel
theorem d_X1_otherThing_26 : decode cX1_otherThing 26 = .ok (.iload_n 3, 1) := by decide +kernel
theorem d_X1_otherThing_27 : decode cX1_otherThing 27 = .ok (.if_icmp .ne 5, 3) := by decide +kernel
theorem d_X1_otherThing_30 : decode cX1_otherThing 30 = .ok (.iconst (-1), 1) := by decide +kernel
theorem d_X1_otherThing_31 : decode cX1_otherThing 31 = .ok (.ireturn, 1) := by decide +kernel
theorem d_X1_otherThing_32 : decode cX1_otherThing 32 = .ok (.iinc 4 1, 3) := by decide +kernel
theorem d_X1_otherThing_35 : decode cX1_otherThing 35 = .ok (.goto (-32), 3) := by decide +kernel
theorem d_X1_otherThing_38 : decode cX1_otherThing 38 = .ok (.aload_n 1, 1) := by decide +kernel
theorem d_X1_otherThing_39 : decode cX1_otherThing 39 = .ok (.iload_n 3, 1) := by decide +kernel
theorem d_X1_otherThing_40 : decode cX1_otherThing 40 = .ok (.invokevirtual 65, 3) := by decide +kernel
theorem d_X1_otherThing_43 : decode cX1_otherThing 43 = .ok (.astore 4, 2) := by decide +kernel
theorem d_X1_otherThing_45 : decode cX1_otherThing 45 = .ok (.aload 4, 2) := by decide +kernel
theorem d_X1_otherThing_47 : decode cX1_otherThing 47 = .ok (.ifnull 16, 3) := by decide +kernel
theorem d_X1_otherThing_50 : decode cX1_otherThing 50 = .ok (.iload_n 2, 1) := by decide +kernel
theorem d_X1_otherThing_51 : decode cX1_otherThing 51 = .ok (.ifCond .lt 12, 3) := by decide +kernel
theorem d_X1_otherThing_54 : decode cX1_otherThing 54 = .ok (.iload_n 2, 1) := by decide +kernel
theorem d_X1_otherThing_55 : decode cX1_otherThing 55 = .ok (.aload_n 0, 1) := by decide +kernel
theorem d_X1_otherThing_56 : decode cX1_otherThing 56 = .ok (.getfield 22, 3) := by decide +kernel
theorem d_X1_otherThing_59 : decode cX1_otherThing 59 = .ok (.arraylength, 1) := by decide +kernel
theorem d_X1_otherThing_60 : decode cX1_otherThing 60 = .ok (.if_icmp .lt 7, 3) := by decide +kernel
theorem d_X1_otherThing_63 : decode cX1_otherThing 63 = .ok (.iconst (-1), 1) := by decide +kernel
theorem d_X1_otherThing_64 : decode cX1_otherThing 64 = .ok (.goto 14, 3) := by decide +kernel
theorem d_X1_otherThing_67 : decode cX1_otherThing 67 = .ok (.aload 4, 2) := by decide +kernel
theorem d_X1_otherThing_69 : decode cX1_otherThing 69 = .ok (.aload_n 0, 1) := by decide +kernel
theorem d_X1_otherThing_70 : decode cX1_otherThing 70 = .ok (.getfield 22, 3) := by decide +kernel
theorem d_X1_otherThing_73 : decode cX1_otherThing 73 = .ok (.iload_n 2, 1) := by decide +kernel
theorem d_X1_otherThing_74 : decode cX1_otherThing 74 = .ok (.iaload, 1) := by decide +kernel
theorem d_X1_otherThing_75 : decode cX1_otherThing 75 = .ok (.invokevirtual 69, 3) := by decide +kernel
theorem d_X1_otherThing_78 : decode cX1_otherThing 78 = .ok (.istore 5, 2) := by decide +kernel
theorem d_X1_otherThing_80 : decode cX1_otherThing 80 = .ok (.iload 5, 2) := by decide +kernel
theorem d_X1_otherThing_82 : decode cX1_otherThing 82 = .ok (.iconst (-1), 1) := by decide +kernel
theorem d_X1_otherThing_83 : decode cX1_otherThing 83 = .ok (.if_icmp .ne 7, 3) := by decide +kernel
theorem d_X1_otherThing_86 : decode cX1_otherThing 86 = .ok (.iconst (-1), 1) := by decide +kernel
theorem d_X1_otherThing_87 : decode cX1_otherThing 87 = .ok (.goto 12, 3) := by decide +kernel
theorem d_X1_otherThing_90 : decode cX1_otherThing 90 = .ok (.aload 4, 2) := by decide +kernel
theorem d_X1_otherThing_92 : decode cX1_otherThing 92 = .ok (.iconst 1, 1) := by decide +kernel
theorem d_X1_otherThing_93 : decode cX1_otherThing 93 = .ok (.iload 5, 2) := by decide +kernel
theorem d_X1_otherThing_95 : decode cX1_otherThing 95 = .ok (.isub, 1) := by decide +kernel
theorem d_X1_otherThing_96 : decode cX1_otherThing 96 = .ok (.invokevirtual 75, 3) := by decide +kernel
theorem d_X1_otherThing_99 : decode cX1_otherThing 99 = .ok (.ireturn, 1) := by decide +kernel
def f_X1_otherThing_99 (s0 : Int32) (S : Mem) : Option (Int32 × Mem) := (some (s0, S))
set_option maxRecDepth 20000 in
theorem t_X1_otherThing_99 {X : MC} {Γ : GG} (C : CX X Γ cX1_otherThing 6 "TickPools$Finder" 1 21) (hr : X.2.2.2.2.2.2.2.2.1.sig.returnType = some .int) {q : Int32 × Mem} (s0 : Int32) (S : Mem) (hf : f_X1_otherThing_99 s0 S = some q) : ZZ X Γ 6 (QQ X Γ (some (aI q.1)) q.2) S 99 [] [aI s0] := by
  unfold f_X1_otherThing_99 at hf
  exact r_i C hr rfl d_X1_otherThing_99 hf
def f_X1_otherThing_78 (v4 : Nat) (s0 : Int32) (S : Mem) : Option (Int32 × Mem) := (if s0 = (-1) then (f_X1_otherThing_99  (-1) S) else (if kd v4 = (3, 12) then ((f_X4_thingOn v4 (1 - s0) S).bind fun q96 => (f_X1_otherThing_99  q96.1 q96.2)) else none))
set_option maxRecDepth 20000 in
theorem t_X1_otherThing_78 {X : MC} {Γ : GG} (C : CX X Γ cX1_otherThing 6 "TickPools$Finder" 1 21) (hr : X.2.2.2.2.2.2.2.2.1.sig.returnType = some .int) {q : Int32 × Mem} (v4 : Nat) (s0 : Int32) (S : Mem) (hf : f_X1_otherThing_78 v4 s0 S = some q) : ZZ X Γ 6 (QQ X Γ (some (aI q.1)) q.2) S 78 [(4, aR v4)] [aI s0] := by
  unfold f_X1_otherThing_78 at hf
  refine z_istore (lv' := [(5, aI s0), (4, aR v4)]) C d_X1_otherThing_78 (by decide) rfl ?_
  refine z_iload (j := 0) C d_X1_otherThing_80 rfl ?_
  refine z_iconst (v := (-1)) C d_X1_otherThing_82 (by decide) ?_
  refine z_icmp_ne (tgt := 90) C d_X1_otherThing_83 (by decide) hf (fun c83 hf => ?_) (fun c83 hf => ?_)
  · refine z_aload (j := 1) C d_X1_otherThing_90 rfl ?_
    refine z_iconst (v := 1) C d_X1_otherThing_92 (by decide) ?_
    refine z_iload (j := 0) C d_X1_otherThing_93 rfl ?_
    refine z_isub C d_X1_otherThing_95 ?_
    obtain ⟨hg96_0, hf⟩ := gd hf
    obtain ⟨q96, hF, hf⟩ := bd hf
    refine z_callV1 (rest := []) C [aI (1 - s0)] hg96_0 (by decide) rfl rfl k_X4_thingOn tw_1143 ⟨by decide, by decide⟩ (Nat.le_of_ble_eq_true rfl) d_X1_otherThing_96 (c_X4_thingOn C.inj hF) rfl ?_
    exact z_sub [] rfl (t_X1_otherThing_99 C hr  _ _ hf)
  · refine z_iconst (v := (-1)) C d_X1_otherThing_86 (by decide) ?_
    refine z_goto (tgt := 99) C d_X1_otherThing_87 (by decide) ?_
    exact z_sub [] rfl (t_X1_otherThing_99 C hr  _ _ hf)
def f_X1_otherThing_63 (v4 : Nat) (S : Mem) : Option (Int32 × Mem) := (f_X1_otherThing_78  v4 (-1) S)
set_option maxRecDepth 20000 in
theorem t_X1_otherThing_63 {X : MC} {Γ : GG} (C : CX X Γ cX1_otherThing 6 "TickPools$Finder" 1 21) (hr : X.2.2.2.2.2.2.2.2.1.sig.returnType = some .int) {q : Int32 × Mem} (v4 : Nat) (S : Mem) (hf : f_X1_otherThing_63 v4 S = some q) : ZZ X Γ 6 (QQ X Γ (some (aI q.1)) q.2) S 63 [(4, aR v4)] [] := by
  unfold f_X1_otherThing_63 at hf
  refine z_iconst (v := (-1)) C d_X1_otherThing_63 (by decide) ?_
  refine z_goto (tgt := 78) C d_X1_otherThing_64 (by decide) ?_
  exact z_sub [0] rfl (t_X1_otherThing_78 C hr  _ _ _ hf)
def f_X1_otherThing_38 (v1 : Nat) (v2 : Int32) (v3 : Int32) (S : Mem) : Option (Int32 × Mem) := (if kd v1 = (1, 9) then ((f_X2_poolAt v1 v3 S).bind fun q40 => (if q40.1 = 0 then (f_X1_otherThing_63  q40.1 q40.2) else (if v2 < 0 then (f_X1_otherThing_63  q40.1 q40.2) else (if v2 < 3 then (if inb v2 3 = true then (if kd q40.1 = (3, 12) then ((f_X4_sideOf q40.1 (gI q40.2 17 ((v2 : Int32).toNatClampNeg)) q40.2).bind fun q75 => (f_X1_otherThing_78  q40.1 q75.1 q75.2)) else none) else none) else (f_X1_otherThing_63  q40.1 q40.2))))) else none)
set_option maxRecDepth 20000 in
theorem t_X1_otherThing_38 {X : MC} {Γ : GG} (C : CX X Γ cX1_otherThing 6 "TickPools$Finder" 1 21) (hr : X.2.2.2.2.2.2.2.2.1.sig.returnType = some .int) {q : Int32 × Mem} (v1 : Nat) (v2 : Int32) (v3 : Int32) (S : Mem) (hf : f_X1_otherThing_38 v1 v2 v3 S = some q) : ZZ X Γ 6 (QQ X Γ (some (aI q.1)) q.2) S 38 [(0, aR 14), (1, aR v1), (2, aI v2), (3, aI v3)] [] := by
  unfold f_X1_otherThing_38 at hf
  refine z_aload_n (j := 1) C d_X1_otherThing_38 rfl ?_
  refine z_iload_n (j := 3) C d_X1_otherThing_39 rfl ?_
  obtain ⟨hg40_0, hf⟩ := gd hf
  obtain ⟨q40, hF, hf⟩ := bd hf
  refine z_callV1 (rest := []) C [aI v3] hg40_0 (by decide) rfl rfl k_X2_poolAt tw_1138 ⟨by decide, by decide⟩ (Nat.le_of_ble_eq_true rfl) d_X1_otherThing_40 (c_X2_poolAt C.inj hF) rfl ?_
  refine z_astore (lv' := [(4, aR q40.1), (0, aR 14), (1, aR v1), (2, aI v2), (3, aI v3)]) C d_X1_otherThing_43 (by decide) rfl ?_
  refine z_aload (j := 0) C d_X1_otherThing_45 rfl ?_
  refine z_ifnull (tgt := 63) C d_X1_otherThing_47 (by decide) hf (fun c47 hf => ?_) (fun c47 hf => ?_)
  · exact z_sub [0] rfl (t_X1_otherThing_63 C hr  _ _ hf)
  · refine z_iload_n (j := 3) C d_X1_otherThing_50 rfl ?_
    refine z_if_lt (tgt := 63) C d_X1_otherThing_51 (by decide) hf (fun c51 hf => ?_) (fun c51 hf => ?_)
    · exact z_sub [0] rfl (t_X1_otherThing_63 C hr  _ _ hf)
    · refine z_iload_n (j := 3) C d_X1_otherThing_54 rfl ?_
      refine z_aload_n (j := 1) C d_X1_otherThing_55 rfl ?_
      refine zg_X1_thing C rfl tw_438 d_X1_otherThing_56 ?_
      refine z_alen (v := 3) C rfl (by decide) (by decide) d_X1_otherThing_59 ?_
      refine z_icmp_lt (tgt := 67) C d_X1_otherThing_60 (by decide) hf (fun c60 hf => ?_) (fun c60 hf => ?_)
      · refine z_aload (j := 0) C d_X1_otherThing_67 rfl ?_
        refine z_aload_n (j := 1) C d_X1_otherThing_69 rfl ?_
        refine zg_X1_thing C rfl tw_438 d_X1_otherThing_70 ?_
        refine z_iload_n (j := 3) C d_X1_otherThing_73 rfl ?_
        obtain ⟨hi74_0, hf⟩ := gd hf
        refine z_iald C rfl hi74_0 d_X1_otherThing_74 ?_
        obtain ⟨hg75_1, hf⟩ := gd hf
        obtain ⟨q75, hF, hf⟩ := bd hf
        refine z_callV1 (rest := []) C [aI (gI q40.2 17 ((v2 : Int32).toNatClampNeg))] hg75_1 (by decide) rfl rfl k_X4_sideOf tw_1139 ⟨by decide, by decide⟩ (Nat.le_of_ble_eq_true rfl) d_X1_otherThing_75 (c_X4_sideOf C.inj hF) rfl ?_
        exact z_sub [0] rfl (t_X1_otherThing_78 C hr  _ _ _ hf)
      · exact z_sub [0] rfl (t_X1_otherThing_63 C hr  _ _ hf)
def f_X1_otherThing_3B (k3 : Nat → Int32 → Int32 → Int32 → Mem → Option (Int32 × Mem)) (v1 : Nat) (v2 : Int32) (v3 : Int32) (v4 : Int32) (S : Mem) : Option (Int32 × Mem) := (if v2 ≤ v4 then (f_X1_otherThing_38  v1 v2 v3 S) else (if 3 ≤ v4 then (f_X1_otherThing_38  v1 v2 v3 S) else (if inb v4 3 = true then (if (gI S 16 ((v4 : Int32).toNatClampNeg)) = v3 then (some ((-1), S)) else (k3 v1 v2 v3 (v4 + 1) S)) else none)))
set_option maxRecDepth 20000 in
theorem t_X1_otherThing_3B {X : MC} {Γ : GG} (C : CX X Γ cX1_otherThing 6 "TickPools$Finder" 1 21) (hr : X.2.2.2.2.2.2.2.2.1.sig.returnType = some .int) {k3 : Nat → Int32 → Int32 → Int32 → Mem → Option (Int32 × Mem)} {q : Int32 × Mem} (hk3 : ∀ (v1 : Nat) (v2 : Int32) (v3 : Int32) (v4 : Int32) (S : Mem), k3 v1 v2 v3 v4 S = some q → ZZ X Γ 6 (QQ X Γ (some (aI q.1)) q.2) S 3 [(0, aR 14), (1, aR v1), (2, aI v2), (3, aI v3), (4, aI v4)] []) (v1 : Nat) (v2 : Int32) (v3 : Int32) (v4 : Int32) (S : Mem) (hf : f_X1_otherThing_3B k3 v1 v2 v3 v4 S = some q) : ZZ X Γ 6 (QQ X Γ (some (aI q.1)) q.2) S 3 [(0, aR 14), (1, aR v1), (2, aI v2), (3, aI v3), (4, aI v4)] [] := by
  unfold f_X1_otherThing_3B at hf
  refine z_iload (j := 4) C d_X1_otherThing_3 rfl ?_
  refine z_iload_n (j := 2) C d_X1_otherThing_5 rfl ?_
  refine z_icmp_ge (tgt := 38) C d_X1_otherThing_6 (by decide) hf (fun c6 hf => ?_) (fun c6 hf => ?_)
  · exact z_sub [0, 1, 2, 3] rfl (t_X1_otherThing_38 C hr  _ _ _ _ hf)
  · refine z_iload (j := 4) C d_X1_otherThing_9 rfl ?_
    refine z_aload_n (j := 0) C d_X1_otherThing_11 rfl ?_
    refine zg_X1_row C rfl tw_437 d_X1_otherThing_12 ?_
    refine z_alen (v := 3) C rfl (by decide) (by decide) d_X1_otherThing_15 ?_
    refine z_icmp_ge (tgt := 38) C d_X1_otherThing_16 (by decide) hf (fun c16 hf => ?_) (fun c16 hf => ?_)
    · exact z_sub [0, 1, 2, 3] rfl (t_X1_otherThing_38 C hr  _ _ _ _ hf)
    · refine z_aload_n (j := 0) C d_X1_otherThing_19 rfl ?_
      refine zg_X1_row C rfl tw_437 d_X1_otherThing_20 ?_
      refine z_iload (j := 4) C d_X1_otherThing_23 rfl ?_
      obtain ⟨hi25_0, hf⟩ := gd hf
      refine z_iald C rfl hi25_0 d_X1_otherThing_25 ?_
      refine z_iload_n (j := 3) C d_X1_otherThing_26 rfl ?_
      refine z_icmp_ne (tgt := 32) C d_X1_otherThing_27 (by decide) hf (fun c27 hf => ?_) (fun c27 hf => ?_)
      · refine z_iinc (j := 4) (v := (v4 + 1)) (lv' := [(4, aI (v4 + 1)), (0, aR 14), (1, aR v1), (2, aI v2), (3, aI v3)]) C d_X1_otherThing_32 rfl rfl (by decide) rfl ?_
        refine z_goto (tgt := 3) C d_X1_otherThing_35 (by decide) ?_
        exact z_sub [1, 2, 3, 4, 0] rfl (hk3 _ _ _ _ _ hf)
      · refine z_iconst (v := (-1)) C d_X1_otherThing_30 (by decide) ?_
        exact r_i C hr rfl d_X1_otherThing_31 hf
def f_X1_otherThing_3 : Nat → Nat → Int32 → Int32 → Int32 → Mem → Option (Int32 × Mem)
  | 0 => fun _ _ _ _ _ => none
  | n + 1 => f_X1_otherThing_3B (f_X1_otherThing_3 n)
theorem t_X1_otherThing_3 {X : MC} {Γ : GG} (C : CX X Γ cX1_otherThing 6 "TickPools$Finder" 1 21) (hr : X.2.2.2.2.2.2.2.2.1.sig.returnType = some .int) {q : Int32 × Mem} : ∀ (n : Nat) (v1 : Nat) (v2 : Int32) (v3 : Int32) (v4 : Int32) (S : Mem) (hf : f_X1_otherThing_3 n v1 v2 v3 v4 S = some q), ZZ X Γ 6 (QQ X Γ (some (aI q.1)) q.2) S 3 [(0, aR 14), (1, aR v1), (2, aI v2), (3, aI v3), (4, aI v4)] []
  | 0, _, _, _, _, _, hf => nomatch (show (none : Option (Int32 × Mem)) = some q from hf)
  | n + 1, v1, v2, v3, v4, S, hf => t_X1_otherThing_3B C hr (t_X1_otherThing_3 C hr n) v1 v2 v3 v4 S hf
/-- TickPools$Finder.otherThing(LTickPools$Market;II)I -/
def f_X1_otherThing (p1 : Nat) (p2 : Int32) (p3 : Int32) (S : Mem) : Option (Int32 × Mem) := (f_X1_otherThing_3  100000 p1 p2 p3 0 S)
set_option maxRecDepth 20000 in
theorem c_X1_otherThing {l : Launch} {Γ : GG} (hI : Inj Γ) {p1 : Nat} {p2 : Int32} {p3 : Int32} {S : Mem} {q : Int32 × Mem} (hf : f_X1_otherThing p1 p2 p3 S = some q) : MM l Γ yX1_otherThing cX1_otherThing 6 (some .int) 1 21 [aR 14, aR p1, aI p2, aI p3] S (some (aI q.1)) q.2 := by
  refine met_of hI "TickPools$Finder" rfl (by decide +kernel) (Nat.le_of_ble_eq_true rfl) (fun X hX C hr => ?_)
  unfold f_X1_otherThing at hf
  show ZZ X Γ 6 _ S 0 [(0, aR 14), (1, aR p1), (2, aI p2), (3, aI p3)] []
  refine z_iconst (v := 0) C d_X1_otherThing_0 (by decide) ?_
  refine z_istore (lv' := [(4, aI 0), (0, aR 14), (1, aR p1), (2, aI p2), (3, aI p3)]) C d_X1_otherThing_1 (by decide) rfl ?_
  exact z_sub [1, 2, 3, 4, 0] rfl (t_X1_otherThing_3 C hr  100000 _ _ _ _ _ hf)
theorem d_X1_wasAt_0 : decode cX1_wasAt 0 = .ok (.iconst 0, 1) := by decide +kernel
theorem d_X1_wasAt_1 : decode cX1_wasAt 1 = .ok (.istore_n 3, 1) := by decide +kernel
theorem d_X1_wasAt_2 : decode cX1_wasAt 2 = .ok (.iload_n 3, 1) := by decide +kernel
theorem d_X1_wasAt_3 : decode cX1_wasAt 3 = .ok (.iload_n 1, 1) := by decide +kernel
theorem d_X1_wasAt_4 : decode cX1_wasAt 4 = .ok (.if_icmp .gt 30, 3) := by decide +kernel
theorem d_X1_wasAt_7 : decode cX1_wasAt 7 = .ok (.iload_n 3, 1) := by decide +kernel
theorem d_X1_wasAt_8 : decode cX1_wasAt 8 = .ok (.aload_n 0, 1) := by decide +kernel
theorem d_X1_wasAt_9 : decode cX1_wasAt 9 = .ok (.getfield 22, 3) := by decide +kernel
theorem d_X1_wasAt_12 : decode cX1_wasAt 12 = .ok (.arraylength, 1) := by decide +kernel
theorem d_X1_wasAt_13 : decode cX1_wasAt 13 = .ok (.if_icmp .ge 21, 3) := by decide +kernel
theorem d_X1_wasAt_16 : decode cX1_wasAt 16 = .ok (.aload_n 0, 1) := by decide +kernel
theorem d_X1_wasAt_17 : decode cX1_wasAt 17 = .ok (.getfield 22, 3) := by decide +kernel
theorem d_X1_wasAt_20 : decode cX1_wasAt 20 = .ok (.iload_n 3, 1) := by decide +kernel
theorem d_X1_wasAt_21 : decode cX1_wasAt 21 = .ok (.iaload, 1) := by decide +kernel
theorem d_X1_wasAt_22 : decode cX1_wasAt 22 = .ok (.iload_n 2, 1) := by decide +kernel
theorem d_X1_wasAt_23 : decode cX1_wasAt 23 = .ok (.if_icmp .ne 5, 3) := by decide +kernel
theorem d_X1_wasAt_26 : decode cX1_wasAt 26 = .ok (.iconst 1, 1) := by decide +kernel
theorem d_X1_wasAt_27 : decode cX1_wasAt 27 = .ok (.ireturn, 1) := by decide +kernel
theorem d_X1_wasAt_28 : decode cX1_wasAt 28 = .ok (.iinc 3 1, 3) := by decide +kernel
theorem d_X1_wasAt_31 : decode cX1_wasAt 31 = .ok (.goto (-29), 3) := by decide +kernel
theorem d_X1_wasAt_34 : decode cX1_wasAt 34 = .ok (.iconst 0, 1) := by decide +kernel
theorem d_X1_wasAt_35 : decode cX1_wasAt 35 = .ok (.ireturn, 1) := by decide +kernel
def f_X1_wasAt_34 (S : Mem) : Option (Int32 × Mem) := (some (0, S))
set_option maxRecDepth 20000 in
theorem t_X1_wasAt_34 {X : MC} {Γ : GG} (C : CX X Γ cX1_wasAt 4 "TickPools$Finder" 0 0) (hr : X.2.2.2.2.2.2.2.2.1.sig.returnType = some .boolean) {q : Int32 × Mem} (S : Mem) (hf : f_X1_wasAt_34 S = some q) : ZZ X Γ 4 (QQ X Γ (some (aI q.1)) q.2) S 34 [] [] := by
  unfold f_X1_wasAt_34 at hf
  refine z_iconst (v := 0) C d_X1_wasAt_34 (by decide) ?_
  exact r_i C hr (by decide) d_X1_wasAt_35 hf
def f_X1_wasAt_2B (k2 : Int32 → Int32 → Int32 → Mem → Option (Int32 × Mem)) (v1 : Int32) (v2 : Int32) (v3 : Int32) (S : Mem) : Option (Int32 × Mem) := (if v1 < v3 then (f_X1_wasAt_34  S) else (if 3 ≤ v3 then (f_X1_wasAt_34  S) else (if inb v3 3 = true then (if (gI S 17 ((v3 : Int32).toNatClampNeg)) = v2 then (some (1, S)) else (k2 v1 v2 (v3 + 1) S)) else none)))
set_option maxRecDepth 20000 in
theorem t_X1_wasAt_2B {X : MC} {Γ : GG} (C : CX X Γ cX1_wasAt 4 "TickPools$Finder" 0 0) (hr : X.2.2.2.2.2.2.2.2.1.sig.returnType = some .boolean) {k2 : Int32 → Int32 → Int32 → Mem → Option (Int32 × Mem)} {q : Int32 × Mem} (hk2 : ∀ (v1 : Int32) (v2 : Int32) (v3 : Int32) (S : Mem), k2 v1 v2 v3 S = some q → ZZ X Γ 4 (QQ X Γ (some (aI q.1)) q.2) S 2 [(0, aR 14), (1, aI v1), (2, aI v2), (3, aI v3)] []) (v1 : Int32) (v2 : Int32) (v3 : Int32) (S : Mem) (hf : f_X1_wasAt_2B k2 v1 v2 v3 S = some q) : ZZ X Γ 4 (QQ X Γ (some (aI q.1)) q.2) S 2 [(0, aR 14), (1, aI v1), (2, aI v2), (3, aI v3)] [] := by
  unfold f_X1_wasAt_2B at hf
  refine z_iload_n (j := 3) C d_X1_wasAt_2 rfl ?_
  refine z_iload_n (j := 1) C d_X1_wasAt_3 rfl ?_
  refine z_icmp_gt (tgt := 34) C d_X1_wasAt_4 (by decide) hf (fun c4 hf => ?_) (fun c4 hf => ?_)
  · exact z_sub [] rfl (t_X1_wasAt_34 C hr  _ hf)
  · refine z_iload_n (j := 3) C d_X1_wasAt_7 rfl ?_
    refine z_aload_n (j := 0) C d_X1_wasAt_8 rfl ?_
    refine zg_X1_thing C rfl tw_438 d_X1_wasAt_9 ?_
    refine z_alen (v := 3) C rfl (by decide) (by decide) d_X1_wasAt_12 ?_
    refine z_icmp_ge (tgt := 34) C d_X1_wasAt_13 (by decide) hf (fun c13 hf => ?_) (fun c13 hf => ?_)
    · exact z_sub [] rfl (t_X1_wasAt_34 C hr  _ hf)
    · refine z_aload_n (j := 0) C d_X1_wasAt_16 rfl ?_
      refine zg_X1_thing C rfl tw_438 d_X1_wasAt_17 ?_
      refine z_iload_n (j := 3) C d_X1_wasAt_20 rfl ?_
      obtain ⟨hi21_0, hf⟩ := gd hf
      refine z_iald C rfl hi21_0 d_X1_wasAt_21 ?_
      refine z_iload_n (j := 2) C d_X1_wasAt_22 rfl ?_
      refine z_icmp_ne (tgt := 28) C d_X1_wasAt_23 (by decide) hf (fun c23 hf => ?_) (fun c23 hf => ?_)
      · refine z_iinc (j := 3) (v := (v3 + 1)) (lv' := [(3, aI (v3 + 1)), (0, aR 14), (1, aI v1), (2, aI v2)]) C d_X1_wasAt_28 rfl rfl (by decide) rfl ?_
        refine z_goto (tgt := 2) C d_X1_wasAt_31 (by decide) ?_
        exact z_sub [1, 2, 3, 0] rfl (hk2 _ _ _ _ hf)
      · refine z_iconst (v := 1) C d_X1_wasAt_26 (by decide) ?_
        exact r_i C hr (by decide) d_X1_wasAt_27 hf
def f_X1_wasAt_2 : Nat → Int32 → Int32 → Int32 → Mem → Option (Int32 × Mem)
  | 0 => fun _ _ _ _ => none
  | n + 1 => f_X1_wasAt_2B (f_X1_wasAt_2 n)
theorem t_X1_wasAt_2 {X : MC} {Γ : GG} (C : CX X Γ cX1_wasAt 4 "TickPools$Finder" 0 0) (hr : X.2.2.2.2.2.2.2.2.1.sig.returnType = some .boolean) {q : Int32 × Mem} : ∀ (n : Nat) (v1 : Int32) (v2 : Int32) (v3 : Int32) (S : Mem) (hf : f_X1_wasAt_2 n v1 v2 v3 S = some q), ZZ X Γ 4 (QQ X Γ (some (aI q.1)) q.2) S 2 [(0, aR 14), (1, aI v1), (2, aI v2), (3, aI v3)] []
  | 0, _, _, _, _, hf => nomatch (show (none : Option (Int32 × Mem)) = some q from hf)
  | n + 1, v1, v2, v3, S, hf => t_X1_wasAt_2B C hr (t_X1_wasAt_2 C hr n) v1 v2 v3 S hf
/-- TickPools$Finder.wasAt(II)Z -/
def f_X1_wasAt (p1 : Int32) (p2 : Int32) (S : Mem) : Option (Int32 × Mem) := (f_X1_wasAt_2  100000 p1 p2 0 S)
set_option maxRecDepth 20000 in
theorem c_X1_wasAt {l : Launch} {Γ : GG} (hI : Inj Γ) {p1 : Int32} {p2 : Int32} {S : Mem} {q : Int32 × Mem} (hf : f_X1_wasAt p1 p2 S = some q) : MM l Γ yX1_wasAt cX1_wasAt 4 (some .boolean) 0 0 [aR 14, aI p1, aI p2] S (some (aI q.1)) q.2 := by
  refine met_of hI "TickPools$Finder" rfl (by decide +kernel) (Nat.le_of_ble_eq_true rfl) (fun X hX C hr => ?_)
  unfold f_X1_wasAt at hf
  show ZZ X Γ 4 _ S 0 [(0, aR 14), (1, aI p1), (2, aI p2)] []
  refine z_iconst (v := 0) C d_X1_wasAt_0 (by decide) ?_
  refine z_istore_n (lv' := [(3, aI 0), (0, aR 14), (1, aI p1), (2, aI p2)]) C d_X1_wasAt_1 (by decide) rfl ?_
  exact z_sub [1, 2, 3, 0] rfl (t_X1_wasAt_2 C hr  100000 _ _ _ _ hf)
theorem d_X11_lastTick_0 : decode cX11_lastTick 0 = .ok (.iload_n 0, 1) := by decide +kernel
theorem d_X11_lastTick_1 : decode cX11_lastTick 1 = .ok (.ifCond .ne 7, 3) := by decide +kernel
theorem d_X11_lastTick_4 : decode cX11_lastTick 4 = .ok (.iconst 0, 1) := by decide +kernel
theorem d_X11_lastTick_5 : decode cX11_lastTick 5 = .ok (.goto 5, 3) := by decide +kernel
theorem d_X11_lastTick_8 : decode cX11_lastTick 8 = .ok (.bipush 40, 2) := by decide +kernel
theorem d_X11_lastTick_10 : decode cX11_lastTick 10 = .ok (.ireturn, 1) := by decide +kernel
def f_X11_lastTick_10 (s0 : Int32) (S : Mem) : Option (Int32 × Mem) := (some (s0, S))
set_option maxRecDepth 20000 in
theorem t_X11_lastTick_10 {X : MC} {Γ : GG} (C : CX X Γ cX11_lastTick 1 "TickPools" 0 0) (hr : X.2.2.2.2.2.2.2.2.1.sig.returnType = some .int) {q : Int32 × Mem} (s0 : Int32) (S : Mem) (hf : f_X11_lastTick_10 s0 S = some q) : ZZ X Γ 1 (QQ X Γ (some (aI q.1)) q.2) S 10 [] [aI s0] := by
  unfold f_X11_lastTick_10 at hf
  exact r_i C hr rfl d_X11_lastTick_10 hf
/-- TickPools.lastTick(I)I -/
def f_X11_lastTick (p0 : Int32) (S : Mem) : Option (Int32 × Mem) := (if p0 = 0 then (f_X11_lastTick_10  0 S) else (f_X11_lastTick_10  40 S))
set_option maxRecDepth 20000 in
theorem c_X11_lastTick {l : Launch} {Γ : GG} (hI : Inj Γ) {p0 : Int32} {S : Mem} {q : Int32 × Mem} (hf : f_X11_lastTick p0 S = some q) : MM l Γ yX11_lastTick cX11_lastTick 1 (some .int) 0 0 [aI p0] S (some (aI q.1)) q.2 := by
  refine met_of hI "TickPools" rfl (by decide +kernel) (Nat.le_of_ble_eq_true rfl) (fun X hX C hr => ?_)
  unfold f_X11_lastTick at hf
  show ZZ X Γ 1 _ S 0 [(0, aI p0)] []
  refine z_iload_n (j := 0) C d_X11_lastTick_0 rfl ?_
  refine z_if_ne (tgt := 8) C d_X11_lastTick_1 (by decide) hf (fun c1 hf => ?_) (fun c1 hf => ?_)
  · refine z_bipush (v := 40) C d_X11_lastTick_8 (by decide) ?_
    exact z_sub [] rfl (t_X11_lastTick_10 C hr  _ _ hf)
  · refine z_iconst (v := 0) C d_X11_lastTick_4 (by decide) ?_
    refine z_goto (tgt := 10) C d_X11_lastTick_5 (by decide) ?_
    exact z_sub [] rfl (t_X11_lastTick_10 C hr  _ _ hf)
theorem d_X11_isSide_0 : decode cX11_isSide 0 = .ok (.iload_n 0, 1) := by decide +kernel
theorem d_X11_isSide_1 : decode cX11_isSide 1 = .ok (.ifCond .eq 8, 3) := by decide +kernel
theorem d_X11_isSide_4 : decode cX11_isSide 4 = .ok (.iload_n 0, 1) := by decide +kernel
theorem d_X11_isSide_5 : decode cX11_isSide 5 = .ok (.iconst 1, 1) := by decide +kernel
theorem d_X11_isSide_6 : decode cX11_isSide 6 = .ok (.if_icmp .ne 7, 3) := by decide +kernel
theorem d_X11_isSide_9 : decode cX11_isSide 9 = .ok (.iconst 1, 1) := by decide +kernel
theorem d_X11_isSide_10 : decode cX11_isSide 10 = .ok (.goto 4, 3) := by decide +kernel
theorem d_X11_isSide_13 : decode cX11_isSide 13 = .ok (.iconst 0, 1) := by decide +kernel
theorem d_X11_isSide_14 : decode cX11_isSide 14 = .ok (.ireturn, 1) := by decide +kernel
def f_X11_isSide_14 (s0 : Int32) (S : Mem) : Option (Int32 × Mem) := (if isB s0 = true then (some (s0, S)) else none)
set_option maxRecDepth 20000 in
theorem t_X11_isSide_14 {X : MC} {Γ : GG} (C : CX X Γ cX11_isSide 1 "TickPools" 0 0) (hr : X.2.2.2.2.2.2.2.2.1.sig.returnType = some .boolean) {q : Int32 × Mem} (s0 : Int32) (S : Mem) (hf : f_X11_isSide_14 s0 S = some q) : ZZ X Γ 1 (QQ X Γ (some (aI q.1)) q.2) S 14 [] [aI s0] := by
  unfold f_X11_isSide_14 at hf
  obtain ⟨hb14_0, hf⟩ := gd hf
  exact r_i C hr (isB_nar hb14_0).1 d_X11_isSide_14 hf
def f_X11_isSide_9 (S : Mem) : Option (Int32 × Mem) := (f_X11_isSide_14  1 S)
set_option maxRecDepth 20000 in
theorem t_X11_isSide_9 {X : MC} {Γ : GG} (C : CX X Γ cX11_isSide 1 "TickPools" 0 0) (hr : X.2.2.2.2.2.2.2.2.1.sig.returnType = some .boolean) {q : Int32 × Mem} (S : Mem) (hf : f_X11_isSide_9 S = some q) : ZZ X Γ 1 (QQ X Γ (some (aI q.1)) q.2) S 9 [] [] := by
  unfold f_X11_isSide_9 at hf
  refine z_iconst (v := 1) C d_X11_isSide_9 (by decide) ?_
  refine z_goto (tgt := 14) C d_X11_isSide_10 (by decide) ?_
  exact z_sub [] rfl (t_X11_isSide_14 C hr  _ _ hf)
/-- TickPools.isSide(I)Z -/
def f_X11_isSide (p0 : Int32) (S : Mem) : Option (Int32 × Mem) := (if p0 = 0 then (f_X11_isSide_9  S) else (if p0 = 1 then (f_X11_isSide_9  S) else (f_X11_isSide_14  0 S)))
set_option maxRecDepth 20000 in
theorem c_X11_isSide {l : Launch} {Γ : GG} (hI : Inj Γ) {p0 : Int32} {S : Mem} {q : Int32 × Mem} (hf : f_X11_isSide p0 S = some q) : MM l Γ yX11_isSide cX11_isSide 1 (some .boolean) 0 0 [aI p0] S (some (aI q.1)) q.2 := by
  refine met_of hI "TickPools" rfl (by decide +kernel) (Nat.le_of_ble_eq_true rfl) (fun X hX C hr => ?_)
  unfold f_X11_isSide at hf
  show ZZ X Γ 1 _ S 0 [(0, aI p0)] []
  refine z_iload_n (j := 0) C d_X11_isSide_0 rfl ?_
  refine z_if_eq (tgt := 9) C d_X11_isSide_1 (by decide) hf (fun c1 hf => ?_) (fun c1 hf => ?_)
  · exact z_sub [] rfl (t_X11_isSide_9 C hr  _ hf)
  · refine z_iload_n (j := 0) C d_X11_isSide_4 rfl ?_
    refine z_iconst (v := 1) C d_X11_isSide_5 (by decide) ?_
    refine z_icmp_ne (tgt := 13) C d_X11_isSide_6 (by decide) hf (fun c6 hf => ?_) (fun c6 hf => ?_)
    · refine z_iconst (v := 0) C d_X11_isSide_13 (by decide) ?_
      exact z_sub [] rfl (t_X11_isSide_14 C hr  _ _ hf)
    · exact z_sub [] rfl (t_X11_isSide_9 C hr  _ hf)
theorem d_X4_sumAt_0 : decode cX4_sumAt 0 = .ok (.aload_n 0, 1) := by decide +kernel
theorem d_X4_sumAt_1 : decode cX4_sumAt 1 = .ok (.getfield 41, 3) := by decide +kernel
theorem d_X4_sumAt_4 : decode cX4_sumAt 4 = .ok (.iconst 1, 1) := by decide +kernel
theorem d_X4_sumAt_5 : decode cX4_sumAt 5 = .ok (.isub, 1) := by decide +kernel
theorem d_X4_sumAt_6 : decode cX4_sumAt 6 = .ok (.istore_n 2, 1) := by decide +kernel
theorem d_X4_sumAt_7 : decode cX4_sumAt 7 = .ok (.iload_n 2, 1) := by decide +kernel
theorem d_X4_sumAt_8 : decode cX4_sumAt 8 = .ok (.ifCond .le 25, 3) := by decide +kernel
theorem d_X4_sumAt_11 : decode cX4_sumAt 11 = .ok (.iload_n 2, 1) := by decide +kernel
theorem d_X4_sumAt_12 : decode cX4_sumAt 12 = .ok (.bipush 8, 2) := by decide +kernel
theorem d_X4_sumAt_14 : decode cX4_sumAt 14 = .ok (.if_icmp .ge 19, 3) := by decide +kernel
theorem d_X4_sumAt_17 : decode cX4_sumAt 17 = .ok (.aload_n 0, 1) := by decide +kernel
theorem d_X4_sumAt_18 : decode cX4_sumAt 18 = .ok (.getfield 18, 3) := by decide +kernel
theorem d_X4_sumAt_21 : decode cX4_sumAt 21 = .ok (.iload_n 2, 1) := by decide +kernel
theorem d_X4_sumAt_22 : decode cX4_sumAt 22 = .ok (.iaload, 1) := by decide +kernel
theorem d_X4_sumAt_23 : decode cX4_sumAt 23 = .ok (.iload_n 1, 1) := by decide +kernel
theorem d_X4_sumAt_24 : decode cX4_sumAt 24 = .ok (.if_icmp .le 9, 3) := by decide +kernel
theorem d_X4_sumAt_27 : decode cX4_sumAt 27 = .ok (.iinc 2 (-1), 3) := by decide +kernel
theorem d_X4_sumAt_30 : decode cX4_sumAt 30 = .ok (.goto (-23), 3) := by decide +kernel
theorem d_X4_sumAt_33 : decode cX4_sumAt 33 = .ok (.iload_n 2, 1) := by decide +kernel
theorem d_X4_sumAt_34 : decode cX4_sumAt 34 = .ok (.ifCond .lt 9, 3) := by decide +kernel
theorem d_X4_sumAt_37 : decode cX4_sumAt 37 = .ok (.iload_n 2, 1) := by decide +kernel
theorem d_X4_sumAt_38 : decode cX4_sumAt 38 = .ok (.bipush 8, 2) := by decide +kernel
theorem d_X4_sumAt_40 : decode cX4_sumAt 40 = .ok (.if_icmp .lt 5, 3) := by decide +kernel
theorem d_X4_sumAt_43 : decode cX4_sumAt 43 = .ok (.iconst 0, 1) := by decide +kernel
theorem d_X4_sumAt_44 : decode cX4_sumAt 44 = .ok (.ireturn, 1) := by decide +kernel
theorem d_X4_sumAt_45 : decode cX4_sumAt 45 = .ok (.aload_n 0, 1) := by decide +kernel
theorem d_X4_sumAt_46 : decode cX4_sumAt 46 = .ok (.getfield 38, 3) := by decide +kernel
theorem d_X4_sumAt_49 : decode cX4_sumAt 49 = .ok (.istore_n 3, 1) := by decide +kernel
theorem d_X4_sumAt_50 : decode cX4_sumAt 50 = .ok (.iload_n 2, 1) := by decide +kernel
theorem d_X4_sumAt_51 : decode cX4_sumAt 51 = .ok (.iconst 1, 1) := by decide +kernel
theorem d_X4_sumAt_52 : decode cX4_sumAt 52 = .ok (.iadd, 1) := by decide +kernel
theorem d_X4_sumAt_53 : decode cX4_sumAt 53 = .ok (.aload_n 0, 1) := by decide +kernel
theorem d_X4_sumAt_54 : decode cX4_sumAt 54 = .ok (.getfield 41, 3) := by decide +kernel
theorem d_X4_sumAt_57 : decode cX4_sumAt 57 = .ok (.if_icmp .ge 57, 3) := by decide +kernel
theorem d_X4_sumAt_60 : decode cX4_sumAt 60 = .ok (.iload_n 2, 1) := by decide +kernel
theorem d_X4_sumAt_61 : decode cX4_sumAt 61 = .ok (.iconst 1, 1) := by decide +kernel
theorem d_X4_sumAt_62 : decode cX4_sumAt 62 = .ok (.iadd, 1) := by decide +kernel
theorem d_X4_sumAt_63 : decode cX4_sumAt 63 = .ok (.bipush 8, 2) := by decide +kernel
theorem d_X4_sumAt_65 : decode cX4_sumAt 65 = .ok (.if_icmp .ge 49, 3) := by decide +kernel
theorem d_X4_sumAt_68 : decode cX4_sumAt 68 = .ok (.aload_n 0, 1) := by decide +kernel
theorem d_X4_sumAt_69 : decode cX4_sumAt 69 = .ok (.getfield 18, 3) := by decide +kernel
theorem d_X4_sumAt_72 : decode cX4_sumAt 72 = .ok (.iload_n 2, 1) := by decide +kernel
theorem d_X4_sumAt_73 : decode cX4_sumAt 73 = .ok (.iconst 1, 1) := by decide +kernel
theorem d_X4_sumAt_74 : decode cX4_sumAt 74 = .ok (.iadd, 1) := by decide +kernel
theorem d_X4_sumAt_75 : decode cX4_sumAt 75 = .ok (.iaload, 1) := by decide +kernel
theorem d_X4_sumAt_76 : decode cX4_sumAt 76 = .ok (.aload_n 0, 1) := by decide +kernel
theorem d_X4_sumAt_77 : decode cX4_sumAt 77 = .ok (.getfield 18, 3) := by decide +kernel
theorem d_X4_sumAt_80 : decode cX4_sumAt 80 = .ok (.iload_n 2, 1) := by decide +kernel
theorem d_X4_sumAt_81 : decode cX4_sumAt 81 = .ok (.iaload, 1) := by decide +kernel
theorem d_X4_sumAt_82 : decode cX4_sumAt 82 = .ok (.isub, 1) := by decide +kernel
theorem d_X4_sumAt_83 : decode cX4_sumAt 83 = .ok (.istore 4, 2) := by decide +kernel
theorem d_X4_sumAt_85 : decode cX4_sumAt 85 = .ok (.iload 4, 2) := by decide +kernel
theorem d_X4_sumAt_87 : decode cX4_sumAt 87 = .ok (.iconst 1, 1) := by decide +kernel
theorem d_X4_sumAt_88 : decode cX4_sumAt 88 = .ok (.if_icmp .ge 7, 3) := by decide +kernel
theorem d_X4_sumAt_91 : decode cX4_sumAt 91 = .ok (.iconst 0, 1) := by decide +kernel
theorem d_X4_sumAt_92 : decode cX4_sumAt 92 = .ok (.goto 21, 3) := by decide +kernel
theorem d_X4_sumAt_95 : decode cX4_sumAt 95 = .ok (.aload_n 0, 1) := by decide +kernel
theorem d_X4_sumAt_96 : decode cX4_sumAt 96 = .ok (.getfield 21, 3) := by decide +kernel
theorem d_X4_sumAt_99 : decode cX4_sumAt 99 = .ok (.iload_n 2, 1) := by decide +kernel
theorem d_X4_sumAt_100 : decode cX4_sumAt 100 = .ok (.iconst 1, 1) := by decide +kernel
theorem d_X4_sumAt_101 : decode cX4_sumAt 101 = .ok (.iadd, 1) := by decide +kernel
theorem d_X4_sumAt_102 : decode cX4_sumAt 102 = .ok (.iaload, 1) := by decide +kernel
theorem d_X4_sumAt_103 : decode cX4_sumAt 103 = .ok (.aload_n 0, 1) := by decide +kernel
theorem d_X4_sumAt_104 : decode cX4_sumAt 104 = .ok (.getfield 21, 3) := by decide +kernel
theorem d_X4_sumAt_107 : decode cX4_sumAt 107 = .ok (.iload_n 2, 1) := by decide +kernel
theorem d_X4_sumAt_108 : decode cX4_sumAt 108 = .ok (.iaload, 1) := by decide +kernel
theorem d_X4_sumAt_109 : decode cX4_sumAt 109 = .ok (.isub, 1) := by decide +kernel
theorem d_X4_sumAt_110 : decode cX4_sumAt 110 = .ok (.iload 4, 2) := by decide +kernel
theorem d_X4_sumAt_112 : decode cX4_sumAt 112 = .ok (.idiv, 1) := by decide +kernel
theorem d_X4_sumAt_113 : decode cX4_sumAt 113 = .ok (.istore_n 3, 1) := by decide +kernel
theorem d_X4_sumAt_114 : decode cX4_sumAt 114 = .ok (.aload_n 0, 1) := by decide +kernel
theorem d_X4_sumAt_115 : decode cX4_sumAt 115 = .ok (.getfield 21, 3) := by decide +kernel
theorem d_X4_sumAt_118 : decode cX4_sumAt 118 = .ok (.iload_n 2, 1) := by decide +kernel
theorem d_X4_sumAt_119 : decode cX4_sumAt 119 = .ok (.iaload, 1) := by decide +kernel
theorem d_X4_sumAt_120 : decode cX4_sumAt 120 = .ok (.iload_n 3, 1) := by decide +kernel
theorem d_X4_sumAt_121 : decode cX4_sumAt 121 = .ok (.iload_n 1, 1) := by decide +kernel
theorem d_X4_sumAt_122 : decode cX4_sumAt 122 = .ok (.aload_n 0, 1) := by decide +kernel
theorem d_X4_sumAt_123 : decode cX4_sumAt 123 = .ok (.getfield 18, 3) := by decide +kernel
theorem d_X4_sumAt_126 : decode cX4_sumAt 126 = .ok (.iload_n 2, 1) := by decide +kernel
theorem d_X4_sumAt_127 : decode cX4_sumAt 127 = .ok (.iaload, 1) := by decide +kernel
theorem d_X4_sumAt_128 : decode cX4_sumAt 128 = .ok (.isub, 1) := by decide +kernel
theorem d_X4_sumAt_129 : decode cX4_sumAt 129 = .ok (.imul, 1) := by decide +kernel
theorem d_X4_sumAt_130 : decode cX4_sumAt 130 = .ok (.iadd, 1) := by decide +kernel
theorem d_X4_sumAt_131 : decode cX4_sumAt 131 = .ok (.ireturn, 1) := by decide +kernel
def f_X4_sumAt_43 (S : Mem) : Option (Int32 × Mem) := (some (0, S))
set_option maxRecDepth 20000 in
theorem t_X4_sumAt_43 {X : MC} {Γ : GG} (C : CX X Γ cX4_sumAt 5 "TickPools$Pool" 0 0) (hr : X.2.2.2.2.2.2.2.2.1.sig.returnType = some .int) {q : Int32 × Mem} (S : Mem) (hf : f_X4_sumAt_43 S = some q) : ZZ X Γ 5 (QQ X Γ (some (aI q.1)) q.2) S 43 [] [] := by
  unfold f_X4_sumAt_43 at hf
  refine z_iconst (v := 0) C d_X4_sumAt_43 (by decide) ?_
  exact r_i C hr rfl d_X4_sumAt_44 hf
def f_X4_sumAt_114 (v0 : Nat) (v1 : Int32) (v2 : Int32) (v3 : Int32) (S : Mem) : Option (Int32 × Mem) := (if kd v0 = (3, 12) then (if inb v2 8 = true then (if inb v2 8 = true then (some (((gI S (v0 + 4) ((v2 : Int32).toNatClampNeg)) + (v3 * (v1 - (gI S (v0 + 3) ((v2 : Int32).toNatClampNeg))))), S)) else none) else none) else none)
set_option maxRecDepth 20000 in
theorem t_X4_sumAt_114 {X : MC} {Γ : GG} (C : CX X Γ cX4_sumAt 5 "TickPools$Pool" 0 0) (hr : X.2.2.2.2.2.2.2.2.1.sig.returnType = some .int) {q : Int32 × Mem} (v0 : Nat) (v1 : Int32) (v2 : Int32) (v3 : Int32) (S : Mem) (hf : f_X4_sumAt_114 v0 v1 v2 v3 S = some q) : ZZ X Γ 5 (QQ X Γ (some (aI q.1)) q.2) S 114 [(0, aR v0), (1, aI v1), (2, aI v2), (3, aI v3)] [] := by
  unfold f_X4_sumAt_114 at hf
  refine z_aload_n (j := 0) C d_X4_sumAt_114 rfl ?_
  obtain ⟨hg115_0, hf⟩ := gd hf
  refine zg_X4_markSum C hg115_0 tw_114 d_X4_sumAt_115 ?_
  refine z_iload_n (j := 2) C d_X4_sumAt_118 rfl ?_
  obtain ⟨hi119_1, hf⟩ := gd hf
  refine z_iald C (kdP4 hg115_0) hi119_1 d_X4_sumAt_119 ?_
  refine z_iload_n (j := 3) C d_X4_sumAt_120 rfl ?_
  refine z_iload_n (j := 1) C d_X4_sumAt_121 rfl ?_
  refine z_aload_n (j := 0) C d_X4_sumAt_122 rfl ?_
  refine zg_X4_markTime C hg115_0 tw_113 d_X4_sumAt_123 ?_
  refine z_iload_n (j := 2) C d_X4_sumAt_126 rfl ?_
  obtain ⟨hi127_2, hf⟩ := gd hf
  refine z_iald C (kdP3 hg115_0) hi127_2 d_X4_sumAt_127 ?_
  refine z_isub C d_X4_sumAt_128 ?_
  refine z_imul C d_X4_sumAt_129 ?_
  refine z_iadd C d_X4_sumAt_130 ?_
  exact r_i C hr rfl d_X4_sumAt_131 hf
def f_X4_sumAt_113 (v0 : Nat) (v1 : Int32) (v2 : Int32) (s0 : Int32) (S : Mem) : Option (Int32 × Mem) := (f_X4_sumAt_114  v0 v1 v2 s0 S)
set_option maxRecDepth 20000 in
theorem t_X4_sumAt_113 {X : MC} {Γ : GG} (C : CX X Γ cX4_sumAt 5 "TickPools$Pool" 0 0) (hr : X.2.2.2.2.2.2.2.2.1.sig.returnType = some .int) {q : Int32 × Mem} (v0 : Nat) (v1 : Int32) (v2 : Int32) (s0 : Int32) (S : Mem) (hf : f_X4_sumAt_113 v0 v1 v2 s0 S = some q) : ZZ X Γ 5 (QQ X Γ (some (aI q.1)) q.2) S 113 [(0, aR v0), (1, aI v1), (2, aI v2)] [aI s0] := by
  unfold f_X4_sumAt_113 at hf
  refine z_istore_n (lv' := [(3, aI s0), (0, aR v0), (1, aI v1), (2, aI v2)]) C d_X4_sumAt_113 (by decide) rfl ?_
  exact z_sub [1, 2, 3, 0] rfl (t_X4_sumAt_114 C hr  _ _ _ _ _ hf)
def f_X4_sumAt_85 (v0 : Nat) (v1 : Int32) (v2 : Int32) (v4 : Int32) (S : Mem) : Option (Int32 × Mem) := (if 1 ≤ v4 then (if kd v0 = (3, 12) then (if inb (v2 + 1) 8 = true then (if inb v2 8 = true then (if v4 = 0 then none else (f_X4_sumAt_113  v0 v1 v2 (((gI S (v0 + 4) (((v2 + 1) : Int32).toNatClampNeg)) - (gI S (v0 + 4) ((v2 : Int32).toNatClampNeg))) / v4) S)) else none) else none) else none) else (f_X4_sumAt_113  v0 v1 v2 0 S))
set_option maxRecDepth 20000 in
theorem t_X4_sumAt_85 {X : MC} {Γ : GG} (C : CX X Γ cX4_sumAt 5 "TickPools$Pool" 0 0) (hr : X.2.2.2.2.2.2.2.2.1.sig.returnType = some .int) {q : Int32 × Mem} (v0 : Nat) (v1 : Int32) (v2 : Int32) (v4 : Int32) (S : Mem) (hf : f_X4_sumAt_85 v0 v1 v2 v4 S = some q) : ZZ X Γ 5 (QQ X Γ (some (aI q.1)) q.2) S 85 [(0, aR v0), (1, aI v1), (2, aI v2), (4, aI v4)] [] := by
  unfold f_X4_sumAt_85 at hf
  refine z_iload (j := 3) C d_X4_sumAt_85 rfl ?_
  refine z_iconst (v := 1) C d_X4_sumAt_87 (by decide) ?_
  refine z_icmp_ge (tgt := 95) C d_X4_sumAt_88 (by decide) hf (fun c88 hf => ?_) (fun c88 hf => ?_)
  · refine z_aload_n (j := 0) C d_X4_sumAt_95 rfl ?_
    obtain ⟨hg96_0, hf⟩ := gd hf
    refine zg_X4_markSum C hg96_0 tw_114 d_X4_sumAt_96 ?_
    refine z_iload_n (j := 2) C d_X4_sumAt_99 rfl ?_
    refine z_iconst (v := 1) C d_X4_sumAt_100 (by decide) ?_
    refine z_iadd C d_X4_sumAt_101 ?_
    obtain ⟨hi102_1, hf⟩ := gd hf
    refine z_iald C (kdP4 hg96_0) hi102_1 d_X4_sumAt_102 ?_
    refine z_aload_n (j := 0) C d_X4_sumAt_103 rfl ?_
    refine zg_X4_markSum C hg96_0 tw_114 d_X4_sumAt_104 ?_
    refine z_iload_n (j := 2) C d_X4_sumAt_107 rfl ?_
    obtain ⟨hi108_2, hf⟩ := gd hf
    refine z_iald C (kdP4 hg96_0) hi108_2 d_X4_sumAt_108 ?_
    refine z_isub C d_X4_sumAt_109 ?_
    refine z_iload (j := 3) C d_X4_sumAt_110 rfl ?_
    obtain ⟨hz112, hf⟩ := gdn hf
    refine z_idiv C d_X4_sumAt_112 hz112 ?_
    exact z_sub [0, 1, 2] rfl (t_X4_sumAt_113 C hr  _ _ _ _ _ hf)
  · refine z_iconst (v := 0) C d_X4_sumAt_91 (by decide) ?_
    refine z_goto (tgt := 113) C d_X4_sumAt_92 (by decide) ?_
    exact z_sub [0, 1, 2] rfl (t_X4_sumAt_113 C hr  _ _ _ _ _ hf)
def f_X4_sumAt_50 (v0 : Nat) (v1 : Int32) (v2 : Int32) (v3 : Int32) (S : Mem) : Option (Int32 × Mem) := (if kd v0 = (3, 12) then (if (gI S v0 7) ≤ (v2 + 1) then (f_X4_sumAt_114  v0 v1 v2 v3 S) else (if 8 ≤ (v2 + 1) then (f_X4_sumAt_114  v0 v1 v2 v3 S) else (if inb (v2 + 1) 8 = true then (if inb v2 8 = true then (f_X4_sumAt_85  v0 v1 v2 ((gI S (v0 + 3) (((v2 + 1) : Int32).toNatClampNeg)) - (gI S (v0 + 3) ((v2 : Int32).toNatClampNeg))) S) else none) else none))) else none)
set_option maxRecDepth 20000 in
theorem t_X4_sumAt_50 {X : MC} {Γ : GG} (C : CX X Γ cX4_sumAt 5 "TickPools$Pool" 0 0) (hr : X.2.2.2.2.2.2.2.2.1.sig.returnType = some .int) {q : Int32 × Mem} (v0 : Nat) (v1 : Int32) (v2 : Int32) (v3 : Int32) (S : Mem) (hf : f_X4_sumAt_50 v0 v1 v2 v3 S = some q) : ZZ X Γ 5 (QQ X Γ (some (aI q.1)) q.2) S 50 [(0, aR v0), (1, aI v1), (2, aI v2), (3, aI v3)] [] := by
  unfold f_X4_sumAt_50 at hf
  refine z_iload_n (j := 2) C d_X4_sumAt_50 rfl ?_
  refine z_iconst (v := 1) C d_X4_sumAt_51 (by decide) ?_
  refine z_iadd C d_X4_sumAt_52 ?_
  refine z_aload_n (j := 0) C d_X4_sumAt_53 rfl ?_
  obtain ⟨hg54_0, hf⟩ := gd hf
  refine zg_X4_marks C hg54_0 tw_105 d_X4_sumAt_54 ?_
  refine z_icmp_ge (tgt := 114) C d_X4_sumAt_57 (by decide) hf (fun c57 hf => ?_) (fun c57 hf => ?_)
  · exact z_sub [0, 1, 2, 3] rfl (t_X4_sumAt_114 C hr  _ _ _ _ _ hf)
  · refine z_iload_n (j := 2) C d_X4_sumAt_60 rfl ?_
    refine z_iconst (v := 1) C d_X4_sumAt_61 (by decide) ?_
    refine z_iadd C d_X4_sumAt_62 ?_
    refine z_bipush (v := 8) C d_X4_sumAt_63 (by decide) ?_
    refine z_icmp_ge (tgt := 114) C d_X4_sumAt_65 (by decide) hf (fun c65 hf => ?_) (fun c65 hf => ?_)
    · exact z_sub [0, 1, 2, 3] rfl (t_X4_sumAt_114 C hr  _ _ _ _ _ hf)
    · refine z_aload_n (j := 0) C d_X4_sumAt_68 rfl ?_
      refine zg_X4_markTime C hg54_0 tw_113 d_X4_sumAt_69 ?_
      refine z_iload_n (j := 2) C d_X4_sumAt_72 rfl ?_
      refine z_iconst (v := 1) C d_X4_sumAt_73 (by decide) ?_
      refine z_iadd C d_X4_sumAt_74 ?_
      obtain ⟨hi75_0, hf⟩ := gd hf
      refine z_iald C (kdP3 hg54_0) hi75_0 d_X4_sumAt_75 ?_
      refine z_aload_n (j := 0) C d_X4_sumAt_76 rfl ?_
      refine zg_X4_markTime C hg54_0 tw_113 d_X4_sumAt_77 ?_
      refine z_iload_n (j := 2) C d_X4_sumAt_80 rfl ?_
      obtain ⟨hi81_1, hf⟩ := gd hf
      refine z_iald C (kdP3 hg54_0) hi81_1 d_X4_sumAt_81 ?_
      refine z_isub C d_X4_sumAt_82 ?_
      refine z_istore (lv' := [(4, aI ((gI S (v0 + 3) (((v2 + 1) : Int32).toNatClampNeg)) - (gI S (v0 + 3) ((v2 : Int32).toNatClampNeg)))), (0, aR v0), (1, aI v1), (2, aI v2), (3, aI v3)]) C d_X4_sumAt_83 (by decide) rfl ?_
      exact z_sub [1, 2, 3, 0] rfl (t_X4_sumAt_85 C hr  _ _ _ _ _ hf)
def f_X4_sumAt_33 (v0 : Nat) (v1 : Int32) (v2 : Int32) (S : Mem) : Option (Int32 × Mem) := (if v2 < 0 then (f_X4_sumAt_43  S) else (if v2 < 8 then (if kd v0 = (3, 12) then (f_X4_sumAt_50  v0 v1 v2 (gI S v0 6) S) else none) else (f_X4_sumAt_43  S)))
set_option maxRecDepth 20000 in
theorem t_X4_sumAt_33 {X : MC} {Γ : GG} (C : CX X Γ cX4_sumAt 5 "TickPools$Pool" 0 0) (hr : X.2.2.2.2.2.2.2.2.1.sig.returnType = some .int) {q : Int32 × Mem} (v0 : Nat) (v1 : Int32) (v2 : Int32) (S : Mem) (hf : f_X4_sumAt_33 v0 v1 v2 S = some q) : ZZ X Γ 5 (QQ X Γ (some (aI q.1)) q.2) S 33 [(0, aR v0), (1, aI v1), (2, aI v2)] [] := by
  unfold f_X4_sumAt_33 at hf
  refine z_iload_n (j := 2) C d_X4_sumAt_33 rfl ?_
  refine z_if_lt (tgt := 43) C d_X4_sumAt_34 (by decide) hf (fun c34 hf => ?_) (fun c34 hf => ?_)
  · exact z_sub [] rfl (t_X4_sumAt_43 C hr  _ hf)
  · refine z_iload_n (j := 2) C d_X4_sumAt_37 rfl ?_
    refine z_bipush (v := 8) C d_X4_sumAt_38 (by decide) ?_
    refine z_icmp_lt (tgt := 45) C d_X4_sumAt_40 (by decide) hf (fun c40 hf => ?_) (fun c40 hf => ?_)
    · refine z_aload_n (j := 0) C d_X4_sumAt_45 rfl ?_
      obtain ⟨hg46_0, hf⟩ := gd hf
      refine zg_X4_zone C hg46_0 tw_99 d_X4_sumAt_46 ?_
      refine z_istore_n (lv' := [(3, aI (gI S v0 6)), (0, aR v0), (1, aI v1), (2, aI v2)]) C d_X4_sumAt_49 (by decide) rfl ?_
      exact z_sub [1, 2, 3, 0] rfl (t_X4_sumAt_50 C hr  _ _ _ _ _ hf)
    · exact z_sub [] rfl (t_X4_sumAt_43 C hr  _ hf)
def f_X4_sumAt_7B (k7 : Nat → Int32 → Int32 → Mem → Option (Int32 × Mem)) (v0 : Nat) (v1 : Int32) (v2 : Int32) (S : Mem) : Option (Int32 × Mem) := (if v2 ≤ 0 then (f_X4_sumAt_33  v0 v1 v2 S) else (if 8 ≤ v2 then (f_X4_sumAt_33  v0 v1 v2 S) else (if kd v0 = (3, 12) then (if inb v2 8 = true then (if (gI S (v0 + 3) ((v2 : Int32).toNatClampNeg)) ≤ v1 then (f_X4_sumAt_33  v0 v1 v2 S) else (k7 v0 v1 (v2 + (-1)) S)) else none) else none)))
set_option maxRecDepth 20000 in
theorem t_X4_sumAt_7B {X : MC} {Γ : GG} (C : CX X Γ cX4_sumAt 5 "TickPools$Pool" 0 0) (hr : X.2.2.2.2.2.2.2.2.1.sig.returnType = some .int) {k7 : Nat → Int32 → Int32 → Mem → Option (Int32 × Mem)} {q : Int32 × Mem} (hk7 : ∀ (v0 : Nat) (v1 : Int32) (v2 : Int32) (S : Mem), k7 v0 v1 v2 S = some q → ZZ X Γ 5 (QQ X Γ (some (aI q.1)) q.2) S 7 [(0, aR v0), (1, aI v1), (2, aI v2)] []) (v0 : Nat) (v1 : Int32) (v2 : Int32) (S : Mem) (hf : f_X4_sumAt_7B k7 v0 v1 v2 S = some q) : ZZ X Γ 5 (QQ X Γ (some (aI q.1)) q.2) S 7 [(0, aR v0), (1, aI v1), (2, aI v2)] [] := by
  unfold f_X4_sumAt_7B at hf
  refine z_iload_n (j := 2) C d_X4_sumAt_7 rfl ?_
  refine z_if_le (tgt := 33) C d_X4_sumAt_8 (by decide) hf (fun c8 hf => ?_) (fun c8 hf => ?_)
  · exact z_sub [0, 1, 2] rfl (t_X4_sumAt_33 C hr  _ _ _ _ hf)
  · refine z_iload_n (j := 2) C d_X4_sumAt_11 rfl ?_
    refine z_bipush (v := 8) C d_X4_sumAt_12 (by decide) ?_
    refine z_icmp_ge (tgt := 33) C d_X4_sumAt_14 (by decide) hf (fun c14 hf => ?_) (fun c14 hf => ?_)
    · exact z_sub [0, 1, 2] rfl (t_X4_sumAt_33 C hr  _ _ _ _ hf)
    · refine z_aload_n (j := 0) C d_X4_sumAt_17 rfl ?_
      obtain ⟨hg18_0, hf⟩ := gd hf
      refine zg_X4_markTime C hg18_0 tw_113 d_X4_sumAt_18 ?_
      refine z_iload_n (j := 2) C d_X4_sumAt_21 rfl ?_
      obtain ⟨hi22_1, hf⟩ := gd hf
      refine z_iald C (kdP3 hg18_0) hi22_1 d_X4_sumAt_22 ?_
      refine z_iload_n (j := 1) C d_X4_sumAt_23 rfl ?_
      refine z_icmp_le (tgt := 33) C d_X4_sumAt_24 (by decide) hf (fun c24 hf => ?_) (fun c24 hf => ?_)
      · exact z_sub [0, 1, 2] rfl (t_X4_sumAt_33 C hr  _ _ _ _ hf)
      · refine z_iinc (j := 2) (v := (v2 + (-1))) (lv' := [(2, aI (v2 + (-1))), (0, aR v0), (1, aI v1)]) C d_X4_sumAt_27 rfl rfl (by decide) rfl ?_
        refine z_goto (tgt := 7) C d_X4_sumAt_30 (by decide) ?_
        exact z_sub [1, 2, 0] rfl (hk7 _ _ _ _ hf)
def f_X4_sumAt_7 : Nat → Nat → Int32 → Int32 → Mem → Option (Int32 × Mem)
  | 0 => fun _ _ _ _ => none
  | n + 1 => f_X4_sumAt_7B (f_X4_sumAt_7 n)
theorem t_X4_sumAt_7 {X : MC} {Γ : GG} (C : CX X Γ cX4_sumAt 5 "TickPools$Pool" 0 0) (hr : X.2.2.2.2.2.2.2.2.1.sig.returnType = some .int) {q : Int32 × Mem} : ∀ (n : Nat) (v0 : Nat) (v1 : Int32) (v2 : Int32) (S : Mem) (hf : f_X4_sumAt_7 n v0 v1 v2 S = some q), ZZ X Γ 5 (QQ X Γ (some (aI q.1)) q.2) S 7 [(0, aR v0), (1, aI v1), (2, aI v2)] []
  | 0, _, _, _, _, hf => nomatch (show (none : Option (Int32 × Mem)) = some q from hf)
  | n + 1, v0, v1, v2, S, hf => t_X4_sumAt_7B C hr (t_X4_sumAt_7 C hr n) v0 v1 v2 S hf
/-- TickPools$Pool.sumAt(I)I -/
def f_X4_sumAt (h0 : Nat) (p1 : Int32) (S : Mem) : Option (Int32 × Mem) := (if kd h0 = (3, 12) then (f_X4_sumAt_7  100000 h0 p1 ((gI S h0 7) - 1) S) else none)
set_option maxRecDepth 20000 in
theorem c_X4_sumAt {l : Launch} {Γ : GG} (hI : Inj Γ) {h0 : Nat} {p1 : Int32} {S : Mem} {q : Int32 × Mem} (hf : f_X4_sumAt h0 p1 S = some q) : MM l Γ yX4_sumAt cX4_sumAt 5 (some .int) 0 0 [aR h0, aI p1] S (some (aI q.1)) q.2 := by
  refine met_of hI "TickPools$Pool" rfl (by decide +kernel) (Nat.le_of_ble_eq_true rfl) (fun X hX C hr => ?_)
  unfold f_X4_sumAt at hf
  show ZZ X Γ 5 _ S 0 [(0, aR h0), (1, aI p1)] []
  refine z_aload_n (j := 0) C d_X4_sumAt_0 rfl ?_
  obtain ⟨hg1_0, hf⟩ := gd hf
  refine zg_X4_marks C hg1_0 tw_105 d_X4_sumAt_1 ?_
  refine z_iconst (v := 1) C d_X4_sumAt_4 (by decide) ?_
  refine z_isub C d_X4_sumAt_5 ?_
  refine z_istore_n (lv' := [(2, aI ((gI S h0 7) - 1)), (0, aR h0), (1, aI p1)]) C d_X4_sumAt_6 (by decide) rfl ?_
  exact z_sub [1, 2, 0] rfl (t_X4_sumAt_7 C hr  100000 _ _ _ _ hf)
theorem d_X4_mark_0 : decode cX4_mark 0 = .ok (.aload_n 0, 1) := by decide +kernel
theorem d_X4_mark_1 : decode cX4_mark 1 = .ok (.getfield 41, 3) := by decide +kernel
theorem d_X4_mark_4 : decode cX4_mark 4 = .ok (.iconst 1, 1) := by decide +kernel
theorem d_X4_mark_5 : decode cX4_mark 5 = .ok (.isub, 1) := by decide +kernel
theorem d_X4_mark_6 : decode cX4_mark 6 = .ok (.istore_n 2, 1) := by decide +kernel
theorem d_X4_mark_7 : decode cX4_mark 7 = .ok (.iload_n 2, 1) := by decide +kernel
theorem d_X4_mark_8 : decode cX4_mark 8 = .ok (.ifCond .lt 20, 3) := by decide +kernel
theorem d_X4_mark_11 : decode cX4_mark 11 = .ok (.iload_n 2, 1) := by decide +kernel
theorem d_X4_mark_12 : decode cX4_mark 12 = .ok (.bipush 8, 2) := by decide +kernel
theorem d_X4_mark_14 : decode cX4_mark 14 = .ok (.if_icmp .ge 14, 3) := by decide +kernel
theorem d_X4_mark_17 : decode cX4_mark 17 = .ok (.aload_n 0, 1) := by decide +kernel
theorem d_X4_mark_18 : decode cX4_mark 18 = .ok (.getfield 18, 3) := by decide +kernel
theorem d_X4_mark_21 : decode cX4_mark 21 = .ok (.iload_n 2, 1) := by decide +kernel
theorem d_X4_mark_22 : decode cX4_mark 22 = .ok (.iaload, 1) := by decide +kernel
theorem d_X4_mark_23 : decode cX4_mark 23 = .ok (.iload_n 1, 1) := by decide +kernel
theorem d_X4_mark_24 : decode cX4_mark 24 = .ok (.if_icmp .ne 4, 3) := by decide +kernel
theorem d_X4_mark_27 : decode cX4_mark 27 = .ok (.return_, 1) := by decide +kernel
theorem d_X4_mark_28 : decode cX4_mark 28 = .ok (.aload_n 0, 1) := by decide +kernel
theorem d_X4_mark_29 : decode cX4_mark 29 = .ok (.iload_n 1, 1) := by decide +kernel
theorem d_X4_mark_30 : decode cX4_mark 30 = .ok (.invokevirtual 69, 3) := by decide +kernel
theorem d_X4_mark_33 : decode cX4_mark 33 = .ok (.istore_n 3, 1) := by decide +kernel
theorem d_X4_mark_34 : decode cX4_mark 34 = .ok (.aload_n 0, 1) := by decide +kernel
theorem d_X4_mark_35 : decode cX4_mark 35 = .ok (.getfield 41, 3) := by decide +kernel
theorem d_X4_mark_38 : decode cX4_mark 38 = .ok (.bipush 8, 2) := by decide +kernel
theorem d_X4_mark_40 : decode cX4_mark 40 = .ok (.if_icmp .lt 39, 3) := by decide +kernel
theorem d_X4_mark_43 : decode cX4_mark 43 = .ok (.aload_n 0, 1) := by decide +kernel
theorem d_X4_mark_44 : decode cX4_mark 44 = .ok (.getfield 18, 3) := by decide +kernel
theorem d_X4_mark_47 : decode cX4_mark 47 = .ok (.iconst 1, 1) := by decide +kernel
theorem d_X4_mark_48 : decode cX4_mark 48 = .ok (.aload_n 0, 1) := by decide +kernel
theorem d_X4_mark_49 : decode cX4_mark 49 = .ok (.getfield 18, 3) := by decide +kernel
theorem d_X4_mark_52 : decode cX4_mark 52 = .ok (.iconst 0, 1) := by decide +kernel
theorem d_X4_mark_53 : decode cX4_mark 53 = .ok (.bipush 7, 2) := by decide +kernel
theorem d_X4_mark_55 : decode cX4_mark 55 = .ok (.invokestatic 59, 3) := by decide +kernel
theorem d_X4_mark_58 : decode cX4_mark 58 = .ok (.aload_n 0, 1) := by decide +kernel
theorem d_X4_mark_59 : decode cX4_mark 59 = .ok (.getfield 21, 3) := by decide +kernel
theorem d_X4_mark_62 : decode cX4_mark 62 = .ok (.iconst 1, 1) := by decide +kernel
theorem d_X4_mark_63 : decode cX4_mark 63 = .ok (.aload_n 0, 1) := by decide +kernel
theorem d_X4_mark_64 : decode cX4_mark 64 = .ok (.getfield 21, 3) := by decide +kernel
theorem d_X4_mark_67 : decode cX4_mark 67 = .ok (.iconst 0, 1) := by decide +kernel
theorem d_X4_mark_68 : decode cX4_mark 68 = .ok (.bipush 7, 2) := by decide +kernel
theorem d_X4_mark_70 : decode cX4_mark 70 = .ok (.invokestatic 59, 3) := by decide +kernel
theorem d_X4_mark_73 : decode cX4_mark 73 = .ok (.aload_n 0, 1) := by decide +kernel
theorem d_X4_mark_74 : decode cX4_mark 74 = .ok (.bipush 7, 2) := by decide +kernel
theorem d_X4_mark_76 : decode cX4_mark 76 = .ok (.putfield 41, 3) := by decide +kernel
theorem d_X4_mark_79 : decode cX4_mark 79 = .ok (.aload_n 0, 1) := by decide +kernel
theorem d_X4_mark_80 : decode cX4_mark 80 = .ok (.getfield 41, 3) := by decide +kernel
theorem d_X4_mark_83 : decode cX4_mark 83 = .ok (.ifCond .lt 33, 3) := by decide +kernel
theorem d_X4_mark_86 : decode cX4_mark 86 = .ok (.aload_n 0, 1) := by decide +kernel
theorem d_X4_mark_87 : decode cX4_mark 87 = .ok (.getfield 18, 3) := by decide +kernel
theorem d_X4_mark_90 : decode cX4_mark 90 = .ok (.aload_n 0, 1) := by decide +kernel
theorem d_X4_mark_91 : decode cX4_mark 91 = .ok (.getfield 41, 3) := by decide +kernel
theorem d_X4_mark_94 : decode cX4_mark 94 = .ok (.iload_n 1, 1) := by decide +kernel
theorem d_X4_mark_95 : decode cX4_mark 95 = .ok (.iastore, 1) := by decide +kernel
theorem d_X4_mark_96 : decode cX4_mark 96 = .ok (.aload_n 0, 1) := by decide +kernel
theorem d_X4_mark_97 : decode cX4_mark 97 = .ok (.getfield 21, 3) := by decide +kernel
theorem d_X4_mark_100 : decode cX4_mark 100 = .ok (.aload_n 0, 1) := by decide +kernel
theorem d_X4_mark_101 : decode cX4_mark 101 = .ok (.getfield 41, 3) := by decide +kernel
theorem d_X4_mark_104 : decode cX4_mark 104 = .ok (.iload_n 3, 1) := by decide +kernel
theorem d_X4_mark_105 : decode cX4_mark 105 = .ok (.iastore, 1) := by decide +kernel
theorem d_X4_mark_106 : decode cX4_mark 106 = .ok (.aload_n 0, 1) := by decide +kernel
theorem d_X4_mark_107 : decode cX4_mark 107 = .ok (.dup, 1) := by decide +kernel
theorem d_X4_mark_108 : decode cX4_mark 108 = .ok (.getfield 41, 3) := by decide +kernel
theorem d_X4_mark_111 : decode cX4_mark 111 = .ok (.iconst 1, 1) := by decide +kernel
theorem d_X4_mark_112 : decode cX4_mark 112 = .ok (.iadd, 1) := by decide +kernel
theorem d_X4_mark_113 : decode cX4_mark 113 = .ok (.putfield 41, 3) := by decide +kernel
theorem d_X4_mark_116 : decode cX4_mark 116 = .ok (.return_, 1) := by decide +kernel
def f_X4_mark_116 (S : Mem) : Option (Unit × Mem) := (some ((), S))
set_option maxRecDepth 20000 in
theorem t_X4_mark_116 {X : MC} {Γ : GG} (C : CX X Γ cX4_mark 4 "TickPools$Pool" 1 40) (hr : X.2.2.2.2.2.2.2.2.1.sig.returnType = none) {q : Unit × Mem} (S : Mem) (hf : f_X4_mark_116 S = some q) : ZZ X Γ 4 (QQ X Γ none q.2) S 116 [] [] := by
  unfold f_X4_mark_116 at hf
  exact r_v C hr d_X4_mark_116 hf
def f_X4_mark_79 (v0 : Nat) (v1 : Int32) (v3 : Int32) (S : Mem) : Option (Unit × Mem) := (if kd v0 = (3, 12) then (if (gI S v0 7) < 0 then (f_X4_mark_116  S) else (if inb (gI S v0 7) 8 = true then (if inb (gI (sI S (v0 + 3) (((gI S v0 7) : Int32).toNatClampNeg) v1) v0 7) 8 = true then (f_X4_mark_116  (sI (sI (sI S (v0 + 3) (((gI S v0 7) : Int32).toNatClampNeg) v1) (v0 + 4) (((gI (sI S (v0 + 3) (((gI S v0 7) : Int32).toNatClampNeg) v1) v0 7) : Int32).toNatClampNeg) v3) v0 7 ((gI (sI (sI S (v0 + 3) (((gI S v0 7) : Int32).toNatClampNeg) v1) (v0 + 4) (((gI (sI S (v0 + 3) (((gI S v0 7) : Int32).toNatClampNeg) v1) v0 7) : Int32).toNatClampNeg) v3) v0 7) + 1))) else none) else none)) else none)
set_option maxRecDepth 20000 in
theorem t_X4_mark_79 {X : MC} {Γ : GG} (C : CX X Γ cX4_mark 4 "TickPools$Pool" 1 40) (hr : X.2.2.2.2.2.2.2.2.1.sig.returnType = none) {q : Unit × Mem} (v0 : Nat) (v1 : Int32) (v3 : Int32) (S : Mem) (hf : f_X4_mark_79 v0 v1 v3 S = some q) : ZZ X Γ 4 (QQ X Γ none q.2) S 79 [(0, aR v0), (1, aI v1), (3, aI v3)] [] := by
  unfold f_X4_mark_79 at hf
  refine z_aload_n (j := 0) C d_X4_mark_79 rfl ?_
  obtain ⟨hg80_0, hf⟩ := gd hf
  refine zg_X4_marks C hg80_0 tw_105 d_X4_mark_80 ?_
  refine z_if_lt (tgt := 116) C d_X4_mark_83 (by decide) hf (fun c83 hf => ?_) (fun c83 hf => ?_)
  · exact z_sub [] rfl (t_X4_mark_116 C hr  _ hf)
  · refine z_aload_n (j := 0) C d_X4_mark_86 rfl ?_
    refine zg_X4_markTime C hg80_0 tw_113 d_X4_mark_87 ?_
    refine z_aload_n (j := 0) C d_X4_mark_90 rfl ?_
    refine zg_X4_marks C hg80_0 tw_105 d_X4_mark_91 ?_
    refine z_iload_n (j := 1) C d_X4_mark_94 rfl ?_
    obtain ⟨hi95_0, hf⟩ := gd hf
    refine z_iast C (kdP3 hg80_0) hi95_0 d_X4_mark_95 ?_
    refine z_aload_n (j := 0) C d_X4_mark_96 rfl ?_
    refine zg_X4_markSum C hg80_0 tw_114 d_X4_mark_97 ?_
    refine z_aload_n (j := 0) C d_X4_mark_100 rfl ?_
    refine zg_X4_marks C hg80_0 tw_105 d_X4_mark_101 ?_
    refine z_iload_n (j := 2) C d_X4_mark_104 rfl ?_
    obtain ⟨hi105_1, hf⟩ := gd hf
    refine z_iast C (kdP4 hg80_0) hi105_1 d_X4_mark_105 ?_
    refine z_aload_n (j := 0) C d_X4_mark_106 rfl ?_
    refine z_dup C d_X4_mark_107 rfl ?_
    refine zg_X4_marks C hg80_0 tw_105 d_X4_mark_108 ?_
    refine z_iconst (v := 1) C d_X4_mark_111 (by decide) ?_
    refine z_iadd C d_X4_mark_112 ?_
    refine zp_X4_marks C hg80_0 tw_105 d_X4_mark_113 ?_
    exact z_sub [] rfl (t_X4_mark_116 C hr  _ hf)
def f_X4_mark_28 (v0 : Nat) (v1 : Int32) (S : Mem) : Option (Unit × Mem) := (if kd v0 = (3, 12) then ((f_X4_sumAt v0 v1 S).bind fun q30 => (if (gI q30.2 v0 7) < 8 then (f_X4_mark_79  v0 v1 q30.1 q30.2) else (f_X4_mark_79  v0 v1 q30.1 (sI (cpI (cpI q30.2 (v0 + 3) ((1 : Int32).toNatClampNeg) (v0 + 3) ((0 : Int32).toNatClampNeg) ((7 : Int32).toNatClampNeg)) (v0 + 4) ((1 : Int32).toNatClampNeg) (v0 + 4) ((0 : Int32).toNatClampNeg) ((7 : Int32).toNatClampNeg)) v0 7 7)))) else none)
set_option maxRecDepth 20000 in
theorem t_X4_mark_28 {X : MC} {Γ : GG} (C : CX X Γ cX4_mark 4 "TickPools$Pool" 1 40) (hr : X.2.2.2.2.2.2.2.2.1.sig.returnType = none) {q : Unit × Mem} (v0 : Nat) (v1 : Int32) (S : Mem) (hf : f_X4_mark_28 v0 v1 S = some q) : ZZ X Γ 4 (QQ X Γ none q.2) S 28 [(0, aR v0), (1, aI v1)] [] := by
  unfold f_X4_mark_28 at hf
  refine z_aload_n (j := 0) C d_X4_mark_28 rfl ?_
  refine z_iload_n (j := 1) C d_X4_mark_29 rfl ?_
  obtain ⟨hg30_0, hf⟩ := gd hf
  obtain ⟨q30, hF, hf⟩ := bd hf
  refine z_callV1 (rest := []) C [aI v1] hg30_0 (by decide) rfl rfl k_X4_sumAt tw_850 ⟨by decide, by decide⟩ (Nat.le_of_ble_eq_true rfl) d_X4_mark_30 (c_X4_sumAt C.inj hF) rfl ?_
  refine z_istore_n (lv' := [(3, aI q30.1), (0, aR v0), (1, aI v1)]) C d_X4_mark_33 (by decide) rfl ?_
  refine z_aload_n (j := 1) C d_X4_mark_34 rfl ?_
  refine zg_X4_marks C hg30_0 tw_105 d_X4_mark_35 ?_
  refine z_bipush (v := 8) C d_X4_mark_38 (by decide) ?_
  refine z_icmp_lt (tgt := 79) C d_X4_mark_40 (by decide) hf (fun c40 hf => ?_) (fun c40 hf => ?_)
  · exact z_sub [1, 2, 0] rfl (t_X4_mark_79 C hr  _ _ _ _ hf)
  · refine z_aload_n (j := 1) C d_X4_mark_43 rfl ?_
    refine zg_X4_markTime C hg30_0 tw_113 d_X4_mark_44 ?_
    refine z_iconst (v := 1) C d_X4_mark_47 (by decide) ?_
    refine z_aload_n (j := 1) C d_X4_mark_48 rfl ?_
    refine zg_X4_markTime C hg30_0 tw_113 d_X4_mark_49 ?_
    refine z_iconst (v := 0) C d_X4_mark_52 (by decide) ?_
    refine z_bipush (v := 7) C d_X4_mark_53 (by decide) ?_
    refine z_copy C tw_670 (kdP3 hg30_0) (kdP3 hg30_0) (by decide) (by decide) (by decide) (by decide) (by decide) (by decide) (Nat.le_of_ble_eq_true rfl) d_X4_mark_55 ?_
    refine z_aload_n (j := 1) C d_X4_mark_58 rfl ?_
    refine zg_X4_markSum C hg30_0 tw_114 d_X4_mark_59 ?_
    refine z_iconst (v := 1) C d_X4_mark_62 (by decide) ?_
    refine z_aload_n (j := 1) C d_X4_mark_63 rfl ?_
    refine zg_X4_markSum C hg30_0 tw_114 d_X4_mark_64 ?_
    refine z_iconst (v := 0) C d_X4_mark_67 (by decide) ?_
    refine z_bipush (v := 7) C d_X4_mark_68 (by decide) ?_
    refine z_copy C tw_670 (kdP4 hg30_0) (kdP4 hg30_0) (by decide) (by decide) (by decide) (by decide) (by decide) (by decide) (Nat.le_of_ble_eq_true rfl) d_X4_mark_70 ?_
    refine z_aload_n (j := 1) C d_X4_mark_73 rfl ?_
    refine z_bipush (v := 7) C d_X4_mark_74 (by decide) ?_
    refine zp_X4_marks C hg30_0 tw_105 d_X4_mark_76 ?_
    exact z_sub [1, 2, 0] rfl (t_X4_mark_79 C hr  _ _ _ _ hf)
def f_X4_mark_7 (v0 : Nat) (v1 : Int32) (v2 : Int32) (S : Mem) : Option (Unit × Mem) := (if v2 < 0 then (f_X4_mark_28  v0 v1 S) else (if 8 ≤ v2 then (f_X4_mark_28  v0 v1 S) else (if kd v0 = (3, 12) then (if inb v2 8 = true then (if (gI S (v0 + 3) ((v2 : Int32).toNatClampNeg)) = v1 then (some ((), S)) else (f_X4_mark_28  v0 v1 S)) else none) else none)))
set_option maxRecDepth 20000 in
theorem t_X4_mark_7 {X : MC} {Γ : GG} (C : CX X Γ cX4_mark 4 "TickPools$Pool" 1 40) (hr : X.2.2.2.2.2.2.2.2.1.sig.returnType = none) {q : Unit × Mem} (v0 : Nat) (v1 : Int32) (v2 : Int32) (S : Mem) (hf : f_X4_mark_7 v0 v1 v2 S = some q) : ZZ X Γ 4 (QQ X Γ none q.2) S 7 [(0, aR v0), (1, aI v1), (2, aI v2)] [] := by
  unfold f_X4_mark_7 at hf
  refine z_iload_n (j := 2) C d_X4_mark_7 rfl ?_
  refine z_if_lt (tgt := 28) C d_X4_mark_8 (by decide) hf (fun c8 hf => ?_) (fun c8 hf => ?_)
  · exact z_sub [0, 1] rfl (t_X4_mark_28 C hr  _ _ _ hf)
  · refine z_iload_n (j := 2) C d_X4_mark_11 rfl ?_
    refine z_bipush (v := 8) C d_X4_mark_12 (by decide) ?_
    refine z_icmp_ge (tgt := 28) C d_X4_mark_14 (by decide) hf (fun c14 hf => ?_) (fun c14 hf => ?_)
    · exact z_sub [0, 1] rfl (t_X4_mark_28 C hr  _ _ _ hf)
    · refine z_aload_n (j := 0) C d_X4_mark_17 rfl ?_
      obtain ⟨hg18_0, hf⟩ := gd hf
      refine zg_X4_markTime C hg18_0 tw_113 d_X4_mark_18 ?_
      refine z_iload_n (j := 2) C d_X4_mark_21 rfl ?_
      obtain ⟨hi22_1, hf⟩ := gd hf
      refine z_iald C (kdP3 hg18_0) hi22_1 d_X4_mark_22 ?_
      refine z_iload_n (j := 1) C d_X4_mark_23 rfl ?_
      refine z_icmp_ne (tgt := 28) C d_X4_mark_24 (by decide) hf (fun c24 hf => ?_) (fun c24 hf => ?_)
      · exact z_sub [0, 1] rfl (t_X4_mark_28 C hr  _ _ _ hf)
      · exact r_v C hr d_X4_mark_27 hf
/-- TickPools$Pool.mark(I)V -/
def f_X4_mark (h0 : Nat) (p1 : Int32) (S : Mem) : Option (Unit × Mem) := (if kd h0 = (3, 12) then (f_X4_mark_7  h0 p1 ((gI S h0 7) - 1) S) else none)
set_option maxRecDepth 20000 in
theorem c_X4_mark {l : Launch} {Γ : GG} (hI : Inj Γ) {h0 : Nat} {p1 : Int32} {S : Mem} {q : Unit × Mem} (hf : f_X4_mark h0 p1 S = some q) : MM l Γ yX4_mark cX4_mark 4 (none) 1 40 [aR h0, aI p1] S none q.2 := by
  refine met_of hI "TickPools$Pool" rfl (by decide +kernel) (Nat.le_of_ble_eq_true rfl) (fun X hX C hr => ?_)
  unfold f_X4_mark at hf
  show ZZ X Γ 4 _ S 0 [(0, aR h0), (1, aI p1)] []
  refine z_aload_n (j := 0) C d_X4_mark_0 rfl ?_
  obtain ⟨hg1_0, hf⟩ := gd hf
  refine zg_X4_marks C hg1_0 tw_105 d_X4_mark_1 ?_
  refine z_iconst (v := 1) C d_X4_mark_4 (by decide) ?_
  refine z_isub C d_X4_mark_5 ?_
  refine z_istore_n (lv' := [(2, aI ((gI S h0 7) - 1)), (0, aR h0), (1, aI p1)]) C d_X4_mark_6 (by decide) rfl ?_
  exact z_sub [1, 2, 0] rfl (t_X4_mark_7 C hr  _ _ _ _ hf)
theorem d_X10_start_0 : decode cX10_start 0 = .ok (.aload_n 0, 1) := by decide +kernel
theorem d_X10_start_1 : decode cX10_start 1 = .ok (.aload_n 1, 1) := by decide +kernel
theorem d_X10_start_2 : decode cX10_start 2 = .ok (.putfield 40, 3) := by decide +kernel
theorem d_X10_start_5 : decode cX10_start 5 = .ok (.aload_n 0, 1) := by decide +kernel
theorem d_X10_start_6 : decode cX10_start 6 = .ok (.aload_n 1, 1) := by decide +kernel
theorem d_X10_start_7 : decode cX10_start 7 = .ok (.iload_n 2, 1) := by decide +kernel
theorem d_X10_start_8 : decode cX10_start 8 = .ok (.invokevirtual 63, 3) := by decide +kernel
theorem d_X10_start_11 : decode cX10_start 11 = .ok (.putfield 67, 3) := by decide +kernel
theorem d_X10_start_14 : decode cX10_start 14 = .ok (.aload_n 0, 1) := by decide +kernel
theorem d_X10_start_15 : decode cX10_start 15 = .ok (.iload_n 2, 1) := by decide +kernel
theorem d_X10_start_16 : decode cX10_start 16 = .ok (.putfield 44, 3) := by decide +kernel
theorem d_X10_start_19 : decode cX10_start 19 = .ok (.aload_n 0, 1) := by decide +kernel
theorem d_X10_start_20 : decode cX10_start 20 = .ok (.iload_n 3, 1) := by decide +kernel
theorem d_X10_start_21 : decode cX10_start 21 = .ok (.putfield 15, 3) := by decide +kernel
theorem d_X10_start_24 : decode cX10_start 24 = .ok (.aload_n 0, 1) := by decide +kernel
theorem d_X10_start_25 : decode cX10_start 25 = .ok (.iload 6, 2) := by decide +kernel
theorem d_X10_start_27 : decode cX10_start 27 = .ok (.putfield 34, 3) := by decide +kernel
theorem d_X10_start_30 : decode cX10_start 30 = .ok (.aload_n 0, 1) := by decide +kernel
theorem d_X10_start_31 : decode cX10_start 31 = .ok (.iconst 0, 1) := by decide +kernel
theorem d_X10_start_32 : decode cX10_start 32 = .ok (.putfield 22, 3) := by decide +kernel
theorem d_X10_start_35 : decode cX10_start 35 = .ok (.aload_n 0, 1) := by decide +kernel
theorem d_X10_start_36 : decode cX10_start 36 = .ok (.iconst 0, 1) := by decide +kernel
theorem d_X10_start_37 : decode cX10_start 37 = .ok (.putfield 71, 3) := by decide +kernel
theorem d_X10_start_40 : decode cX10_start 40 = .ok (.aload_n 0, 1) := by decide +kernel
theorem d_X10_start_41 : decode cX10_start 41 = .ok (.lload 4, 2) := by decide +kernel
theorem d_X10_start_43 : decode cX10_start 43 = .ok (.putfield 26, 3) := by decide +kernel
theorem d_X10_start_46 : decode cX10_start 46 = .ok (.aload_n 0, 1) := by decide +kernel
theorem d_X10_start_47 : decode cX10_start 47 = .ok (.lconst 0, 1) := by decide +kernel
theorem d_X10_start_48 : decode cX10_start 48 = .ok (.putfield 74, 3) := by decide +kernel
theorem d_X10_start_51 : decode cX10_start 51 = .ok (.aload_n 0, 1) := by decide +kernel
theorem d_X10_start_52 : decode cX10_start 52 = .ok (.lconst 0, 1) := by decide +kernel
theorem d_X10_start_53 : decode cX10_start 53 = .ok (.putfield 77, 3) := by decide +kernel
theorem d_X10_start_56 : decode cX10_start 56 = .ok (.aload_n 0, 1) := by decide +kernel
theorem d_X10_start_57 : decode cX10_start 57 = .ok (.lconst 0, 1) := by decide +kernel
theorem d_X10_start_58 : decode cX10_start 58 = .ok (.putfield 80, 3) := by decide +kernel
theorem d_X10_start_61 : decode cX10_start 61 = .ok (.aload_n 0, 1) := by decide +kernel
theorem d_X10_start_62 : decode cX10_start 62 = .ok (.getfield 67, 3) := by decide +kernel
theorem d_X10_start_65 : decode cX10_start 65 = .ok (.ifnull 13, 3) := by decide +kernel
theorem d_X10_start_68 : decode cX10_start 68 = .ok (.aload_n 0, 1) := by decide +kernel
theorem d_X10_start_69 : decode cX10_start 69 = .ok (.getfield 15, 3) := by decide +kernel
theorem d_X10_start_72 : decode cX10_start 72 = .ok (.invokestatic 83, 3) := by decide +kernel
theorem d_X10_start_75 : decode cX10_start 75 = .ok (.ifCond .ne 5, 3) := by decide +kernel
theorem d_X10_start_78 : decode cX10_start 78 = .ok (.iconst 0, 1) := by decide +kernel
theorem d_X10_start_79 : decode cX10_start 79 = .ok (.ireturn, 1) := by decide +kernel
theorem d_X10_start_80 : decode cX10_start 80 = .ok (.aload_n 0, 1) := by decide +kernel
theorem d_X10_start_81 : decode cX10_start 81 = .ok (.aload_n 0, 1) := by decide +kernel
theorem d_X10_start_82 : decode cX10_start 82 = .ok (.getfield 67, 3) := by decide +kernel
theorem d_X10_start_85 : decode cX10_start 85 = .ok (.getfield 87, 3) := by decide +kernel
theorem d_X10_start_88 : decode cX10_start 88 = .ok (.putfield 92, 3) := by decide +kernel
theorem d_X10_start_91 : decode cX10_start 91 = .ok (.aload_n 0, 1) := by decide +kernel
theorem d_X10_start_92 : decode cX10_start 92 = .ok (.aload_n 0, 1) := by decide +kernel
theorem d_X10_start_93 : decode cX10_start 93 = .ok (.getfield 67, 3) := by decide +kernel
theorem d_X10_start_96 : decode cX10_start 96 = .ok (.getfield 93, 3) := by decide +kernel
theorem d_X10_start_99 : decode cX10_start 99 = .ok (.putfield 19, 3) := by decide +kernel
theorem d_X10_start_102 : decode cX10_start 102 = .ok (.aload_n 0, 1) := by decide +kernel
theorem d_X10_start_103 : decode cX10_start 103 = .ok (.getfield 34, 3) := by decide +kernel
theorem d_X10_start_106 : decode cX10_start 106 = .ok (.ifCond .eq 14, 3) := by decide +kernel
theorem d_X10_start_109 : decode cX10_start 109 = .ok (.aload_n 0, 1) := by decide +kernel
theorem d_X10_start_110 : decode cX10_start 110 = .ok (.getfield 67, 3) := by decide +kernel
theorem d_X10_start_113 : decode cX10_start 113 = .ok (.aload_n 1, 1) := by decide +kernel
theorem d_X10_start_114 : decode cX10_start 114 = .ok (.getfield 94, 3) := by decide +kernel
theorem d_X10_start_117 : decode cX10_start 117 = .ok (.invokevirtual 97, 3) := by decide +kernel
theorem d_X10_start_120 : decode cX10_start 120 = .ok (.iconst 1, 1) := by decide +kernel
theorem d_X10_start_121 : decode cX10_start 121 = .ok (.ireturn, 1) := by decide +kernel
def f_X10_start_78 (S : Mem) : Option (Int32 × Mem) := (some (0, S))
set_option maxRecDepth 20000 in
theorem t_X10_start_78 {X : MC} {Γ : GG} (C : CX X Γ cX10_start 7 "TickPools$Trade" 2 63) (hr : X.2.2.2.2.2.2.2.2.1.sig.returnType = some .boolean) {q : Int32 × Mem} (S : Mem) (hf : f_X10_start_78 S = some q) : ZZ X Γ 7 (QQ X Γ (some (aI q.1)) q.2) S 78 [] [] := by
  unfold f_X10_start_78 at hf
  refine z_iconst (v := 0) C d_X10_start_78 (by decide) ?_
  exact r_i C hr (by decide) d_X10_start_79 hf
def f_X10_start_120 (S : Mem) : Option (Int32 × Mem) := (some (1, S))
set_option maxRecDepth 20000 in
theorem t_X10_start_120 {X : MC} {Γ : GG} (C : CX X Γ cX10_start 7 "TickPools$Trade" 2 63) (hr : X.2.2.2.2.2.2.2.2.1.sig.returnType = some .boolean) {q : Int32 × Mem} (S : Mem) (hf : f_X10_start_120 S = some q) : ZZ X Γ 7 (QQ X Γ (some (aI q.1)) q.2) S 120 [] [] := by
  unfold f_X10_start_120 at hf
  refine z_iconst (v := 1) C d_X10_start_120 (by decide) ?_
  exact r_i C hr (by decide) d_X10_start_121 hf
def f_X10_start_56 (v1 : Nat) (S : Mem) : Option (Int32 × Mem) := (if (gR (sL S 4 13 0) 4 1) = 0 then (f_X10_start_78  (sL S 4 13 0)) else ((f_X11_isSide (gI (sL S 4 13 0) 4 3) (sL S 4 13 0)).bind fun q72 => (if q72.1 = 0 then (f_X10_start_78  q72.2) else (if kd (gR q72.2 4 1) = (3, 12) then (if kd (gR (sI q72.2 4 5 (gI q72.2 (gR q72.2 4 1) 5)) 4 1) = (3, 12) then (if (gI (sI (sI q72.2 4 5 (gI q72.2 (gR q72.2 4 1) 5)) 4 8 (gI (sI q72.2 4 5 (gI q72.2 (gR q72.2 4 1) 5)) (gR (sI q72.2 4 5 (gI q72.2 (gR q72.2 4 1) 5)) 4 1) 6)) 4 4) = 0 then (f_X10_start_120  (sI (sI q72.2 4 5 (gI q72.2 (gR q72.2 4 1) 5)) 4 8 (gI (sI q72.2 4 5 (gI q72.2 (gR q72.2 4 1) 5)) (gR (sI q72.2 4 5 (gI q72.2 (gR q72.2 4 1) 5)) 4 1) 6))) else (if kd v1 = (1, 9) then (if kd (gR (sI (sI q72.2 4 5 (gI q72.2 (gR q72.2 4 1) 5)) 4 8 (gI (sI q72.2 4 5 (gI q72.2 (gR q72.2 4 1) 5)) (gR (sI q72.2 4 5 (gI q72.2 (gR q72.2 4 1) 5)) 4 1) 6)) 4 1) = (3, 12) then ((f_X4_mark (gR (sI (sI q72.2 4 5 (gI q72.2 (gR q72.2 4 1) 5)) 4 8 (gI (sI q72.2 4 5 (gI q72.2 (gR q72.2 4 1) 5)) (gR (sI q72.2 4 5 (gI q72.2 (gR q72.2 4 1) 5)) 4 1) 6)) 4 1) (gI (sI (sI q72.2 4 5 (gI q72.2 (gR q72.2 4 1) 5)) 4 8 (gI (sI q72.2 4 5 (gI q72.2 (gR q72.2 4 1) 5)) (gR (sI q72.2 4 5 (gI q72.2 (gR q72.2 4 1) 5)) 4 1) 6)) v1 4) (sI (sI q72.2 4 5 (gI q72.2 (gR q72.2 4 1) 5)) 4 8 (gI (sI q72.2 4 5 (gI q72.2 (gR q72.2 4 1) 5)) (gR (sI q72.2 4 5 (gI q72.2 (gR q72.2 4 1) 5)) 4 1) 6))).bind fun q117 => (f_X10_start_120  q117.2)) else none) else none)) else none) else none))))
set_option maxRecDepth 20000 in
theorem t_X10_start_56 {X : MC} {Γ : GG} (C : CX X Γ cX10_start 7 "TickPools$Trade" 2 63) (hr : X.2.2.2.2.2.2.2.2.1.sig.returnType = some .boolean) {q : Int32 × Mem} (v1 : Nat) (S : Mem) (hf : f_X10_start_56 v1 S = some q) : ZZ X Γ 7 (QQ X Γ (some (aI q.1)) q.2) S 56 [(0, aR 4), (1, aR v1)] [] := by
  unfold f_X10_start_56 at hf
  refine z_aload_n (j := 0) C d_X10_start_56 rfl ?_
  refine z_lconst (v := 0) C d_X10_start_57 (by decide) ?_
  refine zp_X10_fees C rfl tw_258 d_X10_start_58 ?_
  refine z_aload_n (j := 0) C d_X10_start_61 rfl ?_
  refine zg_X10_pool C rfl tw_237 d_X10_start_62 ?_
  refine z_ifnull (tgt := 78) C d_X10_start_65 (by decide) hf (fun c65 hf => ?_) (fun c65 hf => ?_)
  · exact z_sub [] rfl (t_X10_start_78 C hr  _ hf)
  · refine z_aload_n (j := 0) C d_X10_start_68 rfl ?_
    refine zg_X10_side C rfl tw_239 d_X10_start_69 ?_
    obtain ⟨q72, hF, hf⟩ := bd hf
    refine z_callSN1 (rest := []) C [aI (gI (sL S 4 13 0) 4 3)] k_X11_isSide (nw_4) ⟨by decide, by decide⟩ (Nat.le_of_ble_eq_true rfl) d_X10_start_72 (c_X11_isSide C.inj hF) rfl ?_
    refine z_if_ne (tgt := 80) C d_X10_start_75 (by decide) hf (fun c75 hf => ?_) (fun c75 hf => ?_)
    · refine z_aload_n (j := 0) C d_X10_start_80 rfl ?_
      refine z_aload_n (j := 0) C d_X10_start_81 rfl ?_
      refine zg_X10_pool C rfl tw_237 d_X10_start_82 ?_
      obtain ⟨hg85_0, hf⟩ := gd hf
      refine zg_X4_root C hg85_0 tw_96 d_X10_start_85 ?_
      refine zp_X10_root C rfl tw_241 d_X10_start_88 ?_
      refine z_aload_n (j := 0) C d_X10_start_91 rfl ?_
      refine z_aload_n (j := 0) C d_X10_start_92 rfl ?_
      refine zg_X10_pool C rfl tw_237 d_X10_start_93 ?_
      obtain ⟨hg96_1, hf⟩ := gd hf
      refine zg_X4_zone C hg96_1 tw_100 d_X10_start_96 ?_
      refine zp_X10_zone C rfl tw_244 d_X10_start_99 ?_
      refine z_aload_n (j := 0) C d_X10_start_102 rfl ?_
      refine zg_X10_real C rfl tw_240 d_X10_start_103 ?_
      refine z_if_eq (tgt := 120) C d_X10_start_106 (by decide) hf (fun c106 hf => ?_) (fun c106 hf => ?_)
      · exact z_sub [] rfl (t_X10_start_120 C hr  _ hf)
      · refine z_aload_n (j := 0) C d_X10_start_109 rfl ?_
        refine zg_X10_pool C rfl tw_237 d_X10_start_110 ?_
        refine z_aload_n (j := 1) C d_X10_start_113 rfl ?_
        obtain ⟨hg114_2, hf⟩ := gd hf
        refine zg_X2_time C hg114_2 tw_203 d_X10_start_114 ?_
        obtain ⟨hg117_3, hf⟩ := gd hf
        obtain ⟨q117, hF, hf⟩ := bd hf
        refine z_callV0 (rest := []) C [aI (gI (sI (sI q72.2 4 5 (gI q72.2 (gR q72.2 4 1) 5)) 4 8 (gI (sI q72.2 4 5 (gI q72.2 (gR q72.2 4 1) 5)) (gR (sI q72.2 4 5 (gI q72.2 (gR q72.2 4 1) 5)) 4 1) 6)) v1 4)] hg117_3 (by decide) rfl rfl k_X4_mark tw_846 ⟨by decide, by decide⟩ (Nat.le_of_ble_eq_true rfl) d_X10_start_117 (c_X4_mark C.inj hF) rfl ?_
        exact z_sub [] rfl (t_X10_start_120 C hr  _ hf)
    · exact z_sub [] rfl (t_X10_start_78 C hr  _ hf)
def f_X10_start_40 (v1 : Nat) (v4 : Int64) (S : Mem) : Option (Int32 × Mem) := (f_X10_start_56  v1 (sL (sL (sL S 4 10 v4) 4 11 0) 4 12 0))
set_option maxRecDepth 20000 in
theorem t_X10_start_40 {X : MC} {Γ : GG} (C : CX X Γ cX10_start 7 "TickPools$Trade" 2 63) (hr : X.2.2.2.2.2.2.2.2.1.sig.returnType = some .boolean) {q : Int32 × Mem} (v1 : Nat) (v4 : Int64) (S : Mem) (hf : f_X10_start_40 v1 v4 S = some q) : ZZ X Γ 7 (QQ X Γ (some (aI q.1)) q.2) S 40 [(0, aR 4), (1, aR v1), (4, aJ v4)] [] := by
  unfold f_X10_start_40 at hf
  refine z_aload_n (j := 0) C d_X10_start_40 rfl ?_
  refine z_lload (j := 2) C d_X10_start_41 rfl ?_
  refine zp_X10_left C rfl tw_248 d_X10_start_43 ?_
  refine z_aload_n (j := 0) C d_X10_start_46 rfl ?_
  refine z_lconst (v := 0) C d_X10_start_47 (by decide) ?_
  refine zp_X10_gave C rfl tw_251 d_X10_start_48 ?_
  refine z_aload_n (j := 0) C d_X10_start_51 rfl ?_
  refine z_lconst (v := 0) C d_X10_start_52 (by decide) ?_
  refine zp_X10_paid C rfl tw_255 d_X10_start_53 ?_
  exact z_sub [0, 1] rfl (t_X10_start_56 C hr  _ _ hf)
def f_X10_start_24 (v1 : Nat) (v4 : Int64) (v6 : Int32) (S : Mem) : Option (Int32 × Mem) := (if isB v6 = true then (f_X10_start_40  v1 v4 (sI (sI (sI S 4 4 v6) 4 6 0) 4 9 0)) else none)
set_option maxRecDepth 20000 in
theorem t_X10_start_24 {X : MC} {Γ : GG} (C : CX X Γ cX10_start 7 "TickPools$Trade" 2 63) (hr : X.2.2.2.2.2.2.2.2.1.sig.returnType = some .boolean) {q : Int32 × Mem} (v1 : Nat) (v4 : Int64) (v6 : Int32) (S : Mem) (hf : f_X10_start_24 v1 v4 v6 S = some q) : ZZ X Γ 7 (QQ X Γ (some (aI q.1)) q.2) S 24 [(0, aR 4), (1, aR v1), (4, aJ v4), (6, aI v6)] [] := by
  unfold f_X10_start_24 at hf
  refine z_aload_n (j := 0) C d_X10_start_24 rfl ?_
  refine z_iload (j := 3) C d_X10_start_25 rfl ?_
  obtain ⟨hb27_0, hf⟩ := gd hf
  refine zp_X10_real C rfl hb27_0 tw_240 d_X10_start_27 ?_
  refine z_aload_n (j := 0) C d_X10_start_30 rfl ?_
  refine z_iconst (v := 0) C d_X10_start_31 (by decide) ?_
  refine zp_X10_atEnd C rfl (by decide) tw_242 d_X10_start_32 ?_
  refine z_aload_n (j := 0) C d_X10_start_35 rfl ?_
  refine z_iconst (v := 0) C d_X10_start_36 (by decide) ?_
  refine zp_X10_crossed C rfl tw_246 d_X10_start_37 ?_
  exact z_sub [0, 1, 2] rfl (t_X10_start_40 C hr  _ _ _ hf)
/-- TickPools$Trade.start(LTickPools$Market;IIJZ)Z -/
def f_X10_start (p1 : Nat) (p2 : Int32) (p3 : Int32) (p4 : Int64) (p6 : Int32) (S : Mem) : Option (Int32 × Mem) := (if kd p1 = (1, 9) then ((f_X2_poolAt p1 p2 (sR S 4 0 p1)).bind fun q8 => (f_X10_start_24  p1 p4 p6 (sI (sI (sR q8.2 4 1 q8.1) 4 2 p2) 4 3 p3))) else none)
set_option maxRecDepth 20000 in
theorem c_X10_start {l : Launch} {Γ : GG} (hI : Inj Γ) {p1 : Nat} {p2 : Int32} {p3 : Int32} {p4 : Int64} {p6 : Int32} {S : Mem} {q : Int32 × Mem} (hf : f_X10_start p1 p2 p3 p4 p6 S = some q) : MM l Γ yX10_start cX10_start 7 (some .boolean) 2 63 [aR 4, aR p1, aI p2, aI p3, aJ p4, aI p6] S (some (aI q.1)) q.2 := by
  refine met_of hI "TickPools$Trade" rfl (by decide +kernel) (Nat.le_of_ble_eq_true rfl) (fun X hX C hr => ?_)
  unfold f_X10_start at hf
  show ZZ X Γ 7 _ S 0 [(0, aR 4), (1, aR p1), (2, aI p2), (3, aI p3), (4, aJ p4), (6, aI p6)] []
  refine z_aload_n (j := 0) C d_X10_start_0 rfl ?_
  refine z_aload_n (j := 1) C d_X10_start_1 rfl ?_
  refine zp_X10_market C rfl tw_236 d_X10_start_2 ?_
  refine z_aload_n (j := 0) C d_X10_start_5 rfl ?_
  refine z_aload_n (j := 1) C d_X10_start_6 rfl ?_
  refine z_iload_n (j := 2) C d_X10_start_7 rfl ?_
  obtain ⟨hg8_0, hf⟩ := gd hf
  obtain ⟨q8, hF, hf⟩ := bd hf
  refine z_callV1 (rest := [aR 4]) C [aI p2] hg8_0 (by decide) rfl rfl k_X2_poolAt tw_844 ⟨by decide, by decide⟩ (Nat.le_of_ble_eq_true rfl) d_X10_start_8 (c_X2_poolAt C.inj hF) rfl ?_
  refine zp_X10_pool C rfl tw_237 d_X10_start_11 ?_
  refine z_aload_n (j := 0) C d_X10_start_14 rfl ?_
  refine z_iload_n (j := 2) C d_X10_start_15 rfl ?_
  refine zp_X10_poolNumber C rfl tw_238 d_X10_start_16 ?_
  refine z_aload_n (j := 0) C d_X10_start_19 rfl ?_
  refine z_iload_n (j := 3) C d_X10_start_20 rfl ?_
  refine zp_X10_side C rfl tw_239 d_X10_start_21 ?_
  exact z_sub [0, 1, 4, 5] rfl (t_X10_start_24 C hr  _ _ _ _ hf)
theorem d_X2_nearer_0 : decode cX2_nearer 0 = .ok (.iload_n 3, 1) := by decide +kernel
theorem d_X2_nearer_1 : decode cX2_nearer 1 = .ok (.ifCond .ne 19, 3) := by decide +kernel
theorem d_X2_nearer_4 : decode cX2_nearer 4 = .ok (.iload_n 1, 1) := by decide +kernel
theorem d_X2_nearer_5 : decode cX2_nearer 5 = .ok (.iload_n 2, 1) := by decide +kernel
theorem d_X2_nearer_6 : decode cX2_nearer 6 = .ok (.if_icmp .gt 12, 3) := by decide +kernel
theorem d_X2_nearer_9 : decode cX2_nearer 9 = .ok (.iload_n 1, 1) := by decide +kernel
theorem d_X2_nearer_10 : decode cX2_nearer 10 = .ok (.iload_n 0, 1) := by decide +kernel
theorem d_X2_nearer_11 : decode cX2_nearer 11 = .ok (.if_icmp .le 7, 3) := by decide +kernel
theorem d_X2_nearer_14 : decode cX2_nearer 14 = .ok (.iload_n 1, 1) := by decide +kernel
theorem d_X2_nearer_15 : decode cX2_nearer 15 = .ok (.goto 4, 3) := by decide +kernel
theorem d_X2_nearer_18 : decode cX2_nearer 18 = .ok (.iload_n 0, 1) := by decide +kernel
theorem d_X2_nearer_19 : decode cX2_nearer 19 = .ok (.ireturn, 1) := by decide +kernel
theorem d_X2_nearer_20 : decode cX2_nearer 20 = .ok (.iload_n 1, 1) := by decide +kernel
theorem d_X2_nearer_21 : decode cX2_nearer 21 = .ok (.iload_n 2, 1) := by decide +kernel
theorem d_X2_nearer_22 : decode cX2_nearer 22 = .ok (.if_icmp .le 17, 3) := by decide +kernel
theorem d_X2_nearer_25 : decode cX2_nearer 25 = .ok (.iload_n 0, 1) := by decide +kernel
theorem d_X2_nearer_26 : decode cX2_nearer 26 = .ok (.iconst (-1), 1) := by decide +kernel
theorem d_X2_nearer_27 : decode cX2_nearer 27 = .ok (.if_icmp .eq 8, 3) := by decide +kernel
theorem d_X2_nearer_30 : decode cX2_nearer 30 = .ok (.iload_n 1, 1) := by decide +kernel
theorem d_X2_nearer_31 : decode cX2_nearer 31 = .ok (.iload_n 0, 1) := by decide +kernel
theorem d_X2_nearer_32 : decode cX2_nearer 32 = .ok (.if_icmp .ge 7, 3) := by decide +kernel
theorem d_X2_nearer_35 : decode cX2_nearer 35 = .ok (.iload_n 1, 1) := by decide +kernel
theorem d_X2_nearer_36 : decode cX2_nearer 36 = .ok (.goto 4, 3) := by decide +kernel
theorem d_X2_nearer_39 : decode cX2_nearer 39 = .ok (.iload_n 0, 1) := by decide +kernel
theorem d_X2_nearer_40 : decode cX2_nearer 40 = .ok (.ireturn, 1) := by decide +kernel
def f_X2_nearer_19 (s0 : Int32) (S : Mem) : Option (Int32 × Mem) := (some (s0, S))
set_option maxRecDepth 20000 in
theorem t_X2_nearer_19 {X : MC} {Γ : GG} (C : CX X Γ cX2_nearer 4 "TickPools$Market" 0 0) (hr : X.2.2.2.2.2.2.2.2.1.sig.returnType = some .int) {q : Int32 × Mem} (s0 : Int32) (S : Mem) (hf : f_X2_nearer_19 s0 S = some q) : ZZ X Γ 4 (QQ X Γ (some (aI q.1)) q.2) S 19 [] [aI s0] := by
  unfold f_X2_nearer_19 at hf
  exact r_i C hr rfl d_X2_nearer_19 hf
def f_X2_nearer_18 (v0 : Int32) (S : Mem) : Option (Int32 × Mem) := (f_X2_nearer_19  v0 S)
set_option maxRecDepth 20000 in
theorem t_X2_nearer_18 {X : MC} {Γ : GG} (C : CX X Γ cX2_nearer 4 "TickPools$Market" 0 0) (hr : X.2.2.2.2.2.2.2.2.1.sig.returnType = some .int) {q : Int32 × Mem} (v0 : Int32) (S : Mem) (hf : f_X2_nearer_18 v0 S = some q) : ZZ X Γ 4 (QQ X Γ (some (aI q.1)) q.2) S 18 [(0, aI v0)] [] := by
  unfold f_X2_nearer_18 at hf
  refine z_iload_n (j := 0) C d_X2_nearer_18 rfl ?_
  exact z_sub [] rfl (t_X2_nearer_19 C hr  _ _ hf)
def f_X2_nearer_40 (s0 : Int32) (S : Mem) : Option (Int32 × Mem) := (some (s0, S))
set_option maxRecDepth 20000 in
theorem t_X2_nearer_40 {X : MC} {Γ : GG} (C : CX X Γ cX2_nearer 4 "TickPools$Market" 0 0) (hr : X.2.2.2.2.2.2.2.2.1.sig.returnType = some .int) {q : Int32 × Mem} (s0 : Int32) (S : Mem) (hf : f_X2_nearer_40 s0 S = some q) : ZZ X Γ 4 (QQ X Γ (some (aI q.1)) q.2) S 40 [] [aI s0] := by
  unfold f_X2_nearer_40 at hf
  exact r_i C hr rfl d_X2_nearer_40 hf
def f_X2_nearer_35 (v1 : Int32) (S : Mem) : Option (Int32 × Mem) := (f_X2_nearer_40  v1 S)
set_option maxRecDepth 20000 in
theorem t_X2_nearer_35 {X : MC} {Γ : GG} (C : CX X Γ cX2_nearer 4 "TickPools$Market" 0 0) (hr : X.2.2.2.2.2.2.2.2.1.sig.returnType = some .int) {q : Int32 × Mem} (v1 : Int32) (S : Mem) (hf : f_X2_nearer_35 v1 S = some q) : ZZ X Γ 4 (QQ X Γ (some (aI q.1)) q.2) S 35 [(1, aI v1)] [] := by
  unfold f_X2_nearer_35 at hf
  refine z_iload_n (j := 0) C d_X2_nearer_35 rfl ?_
  refine z_goto (tgt := 40) C d_X2_nearer_36 (by decide) ?_
  exact z_sub [] rfl (t_X2_nearer_40 C hr  _ _ hf)
def f_X2_nearer_39 (v0 : Int32) (S : Mem) : Option (Int32 × Mem) := (f_X2_nearer_40  v0 S)
set_option maxRecDepth 20000 in
theorem t_X2_nearer_39 {X : MC} {Γ : GG} (C : CX X Γ cX2_nearer 4 "TickPools$Market" 0 0) (hr : X.2.2.2.2.2.2.2.2.1.sig.returnType = some .int) {q : Int32 × Mem} (v0 : Int32) (S : Mem) (hf : f_X2_nearer_39 v0 S = some q) : ZZ X Γ 4 (QQ X Γ (some (aI q.1)) q.2) S 39 [(0, aI v0)] [] := by
  unfold f_X2_nearer_39 at hf
  refine z_iload_n (j := 0) C d_X2_nearer_39 rfl ?_
  exact z_sub [] rfl (t_X2_nearer_40 C hr  _ _ hf)
/-- TickPools$Market.nearer(IIII)I -/
def f_X2_nearer (p0 : Int32) (p1 : Int32) (p2 : Int32) (p3 : Int32) (S : Mem) : Option (Int32 × Mem) := (if p3 = 0 then (if p2 < p1 then (f_X2_nearer_18  p0 S) else (if p1 ≤ p0 then (f_X2_nearer_18  p0 S) else (f_X2_nearer_19  p1 S))) else (if p1 ≤ p2 then (f_X2_nearer_39  p0 S) else (if p0 = (-1) then (f_X2_nearer_35  p1 S) else (if p0 ≤ p1 then (f_X2_nearer_39  p0 S) else (f_X2_nearer_35  p1 S)))))
set_option maxRecDepth 20000 in
theorem c_X2_nearer {l : Launch} {Γ : GG} (hI : Inj Γ) {p0 : Int32} {p1 : Int32} {p2 : Int32} {p3 : Int32} {S : Mem} {q : Int32 × Mem} (hf : f_X2_nearer p0 p1 p2 p3 S = some q) : MM l Γ yX2_nearer cX2_nearer 4 (some .int) 0 0 [aI p0, aI p1, aI p2, aI p3] S (some (aI q.1)) q.2 := by
  refine met_of hI "TickPools$Market" rfl (by decide +kernel) (Nat.le_of_ble_eq_true rfl) (fun X hX C hr => ?_)
  unfold f_X2_nearer at hf
  show ZZ X Γ 4 _ S 0 [(0, aI p0), (1, aI p1), (2, aI p2), (3, aI p3)] []
  refine z_iload_n (j := 3) C d_X2_nearer_0 rfl ?_
  refine z_if_ne (tgt := 20) C d_X2_nearer_1 (by decide) hf (fun c1 hf => ?_) (fun c1 hf => ?_)
  · refine z_iload_n (j := 1) C d_X2_nearer_20 rfl ?_
    refine z_iload_n (j := 2) C d_X2_nearer_21 rfl ?_
    refine z_icmp_le (tgt := 39) C d_X2_nearer_22 (by decide) hf (fun c22 hf => ?_) (fun c22 hf => ?_)
    · exact z_sub [0] rfl (t_X2_nearer_39 C hr  _ _ hf)
    · refine z_iload_n (j := 0) C d_X2_nearer_25 rfl ?_
      refine z_iconst (v := (-1)) C d_X2_nearer_26 (by decide) ?_
      refine z_icmp_eq (tgt := 35) C d_X2_nearer_27 (by decide) hf (fun c27 hf => ?_) (fun c27 hf => ?_)
      · exact z_sub [1] rfl (t_X2_nearer_35 C hr  _ _ hf)
      · refine z_iload_n (j := 1) C d_X2_nearer_30 rfl ?_
        refine z_iload_n (j := 0) C d_X2_nearer_31 rfl ?_
        refine z_icmp_ge (tgt := 39) C d_X2_nearer_32 (by decide) hf (fun c32 hf => ?_) (fun c32 hf => ?_)
        · exact z_sub [0] rfl (t_X2_nearer_39 C hr  _ _ hf)
        · exact z_sub [1] rfl (t_X2_nearer_35 C hr  _ _ hf)
  · refine z_iload_n (j := 1) C d_X2_nearer_4 rfl ?_
    refine z_iload_n (j := 2) C d_X2_nearer_5 rfl ?_
    refine z_icmp_gt (tgt := 18) C d_X2_nearer_6 (by decide) hf (fun c6 hf => ?_) (fun c6 hf => ?_)
    · exact z_sub [0] rfl (t_X2_nearer_18 C hr  _ _ hf)
    · refine z_iload_n (j := 1) C d_X2_nearer_9 rfl ?_
      refine z_iload_n (j := 0) C d_X2_nearer_10 rfl ?_
      refine z_icmp_le (tgt := 18) C d_X2_nearer_11 (by decide) hf (fun c11 hf => ?_) (fun c11 hf => ?_)
      · exact z_sub [0] rfl (t_X2_nearer_18 C hr  _ _ hf)
      · refine z_iload_n (j := 1) C d_X2_nearer_14 rfl ?_
        refine z_goto (tgt := 19) C d_X2_nearer_15 (by decide) ?_
        exact z_sub [] rfl (t_X2_nearer_19 C hr  _ _ hf)
theorem d_X2_nextEdge_0 : decode cX2_nextEdge 0 = .ok (.iconst (-1), 1) := by decide +kernel
theorem d_X2_nextEdge_1 : decode cX2_nextEdge 1 = .ok (.istore 4, 2) := by decide +kernel
theorem d_X2_nextEdge_3 : decode cX2_nextEdge 3 = .ok (.iconst 0, 1) := by decide +kernel
theorem d_X2_nextEdge_4 : decode cX2_nextEdge 4 = .ok (.istore 5, 2) := by decide +kernel
theorem d_X2_nextEdge_6 : decode cX2_nextEdge 6 = .ok (.iload 5, 2) := by decide +kernel
theorem d_X2_nextEdge_8 : decode cX2_nextEdge 8 = .ok (.aload_n 0, 1) := by decide +kernel
theorem d_X2_nextEdge_9 : decode cX2_nextEdge 9 = .ok (.getfield 39, 3) := by decide +kernel
theorem d_X2_nextEdge_12 : decode cX2_nextEdge 12 = .ok (.if_icmp .ge 65, 3) := by decide +kernel
theorem d_X2_nextEdge_15 : decode cX2_nextEdge 15 = .ok (.iload 5, 2) := by decide +kernel
theorem d_X2_nextEdge_17 : decode cX2_nextEdge 17 = .ok (.aload_n 0, 1) := by decide +kernel
theorem d_X2_nextEdge_18 : decode cX2_nextEdge 18 = .ok (.getfield 24, 3) := by decide +kernel
theorem d_X2_nextEdge_21 : decode cX2_nextEdge 21 = .ok (.arraylength, 1) := by decide +kernel
theorem d_X2_nextEdge_22 : decode cX2_nextEdge 22 = .ok (.if_icmp .ge 55, 3) := by decide +kernel
theorem d_X2_nextEdge_25 : decode cX2_nextEdge 25 = .ok (.aload_n 0, 1) := by decide +kernel
theorem d_X2_nextEdge_26 : decode cX2_nextEdge 26 = .ok (.getfield 24, 3) := by decide +kernel
theorem d_X2_nextEdge_29 : decode cX2_nextEdge 29 = .ok (.iload 5, 2) := by decide +kernel
theorem d_X2_nextEdge_31 : decode cX2_nextEdge 31 = .ok (.aaload, 1) := by decide +kernel
theorem d_X2_nextEdge_32 : decode cX2_nextEdge 32 = .ok (.astore 6, 2) := by decide +kernel
theorem d_X2_nextEdge_34 : decode cX2_nextEdge 34 = .ok (.aload 6, 2) := by decide +kernel
theorem d_X2_nextEdge_36 : decode cX2_nextEdge 36 = .ok (.getfield 86, 3) := by decide +kernel
theorem d_X2_nextEdge_39 : decode cX2_nextEdge 39 = .ok (.iload_n 1, 1) := by decide +kernel
theorem d_X2_nextEdge_40 : decode cX2_nextEdge 40 = .ok (.if_icmp .ne 31, 3) := by decide +kernel
theorem d_X2_nextEdge_43 : decode cX2_nextEdge 43 = .ok (.iload 4, 2) := by decide +kernel
theorem d_X2_nextEdge_45 : decode cX2_nextEdge 45 = .ok (.aload 6, 2) := by decide +kernel
theorem d_X2_nextEdge_47 : decode cX2_nextEdge 47 = .ok (.getfield 89, 3) := by decide +kernel
theorem d_X2_nextEdge_50 : decode cX2_nextEdge 50 = .ok (.iload_n 2, 1) := by decide +kernel
theorem d_X2_nextEdge_51 : decode cX2_nextEdge 51 = .ok (.iload_n 3, 1) := by decide +kernel
theorem d_X2_nextEdge_52 : decode cX2_nextEdge 52 = .ok (.invokestatic 98, 3) := by decide +kernel
theorem d_X2_nextEdge_55 : decode cX2_nextEdge 55 = .ok (.istore 4, 2) := by decide +kernel
theorem d_X2_nextEdge_57 : decode cX2_nextEdge 57 = .ok (.iload 4, 2) := by decide +kernel
theorem d_X2_nextEdge_59 : decode cX2_nextEdge 59 = .ok (.aload 6, 2) := by decide +kernel
theorem d_X2_nextEdge_61 : decode cX2_nextEdge 61 = .ok (.getfield 92, 3) := by decide +kernel
theorem d_X2_nextEdge_64 : decode cX2_nextEdge 64 = .ok (.iload_n 2, 1) := by decide +kernel
theorem d_X2_nextEdge_65 : decode cX2_nextEdge 65 = .ok (.iload_n 3, 1) := by decide +kernel
theorem d_X2_nextEdge_66 : decode cX2_nextEdge 66 = .ok (.invokestatic 98, 3) := by decide +kernel
theorem d_X2_nextEdge_69 : decode cX2_nextEdge 69 = .ok (.istore 4, 2) := by decide +kernel
theorem d_X2_nextEdge_71 : decode cX2_nextEdge 71 = .ok (.iinc 5 1, 3) := by decide +kernel
theorem d_X2_nextEdge_74 : decode cX2_nextEdge 74 = .ok (.goto (-68), 3) := by decide +kernel
theorem d_X2_nextEdge_77 : decode cX2_nextEdge 77 = .ok (.iload 4, 2) := by decide +kernel
theorem d_X2_nextEdge_79 : decode cX2_nextEdge 79 = .ok (.ireturn, 1) := by decide +kernel
def f_X2_nextEdge_71 (k6 : Nat → Int32 → Int32 → Int32 → Int32 → Int32 → Mem → Option (Int32 × Mem)) (v0 : Nat) (v1 : Int32) (v2 : Int32) (v3 : Int32) (v4 : Int32) (v5 : Int32) (S : Mem) : Option (Int32 × Mem) := (k6 v0 v1 v2 v3 v4 (v5 + 1) S)
set_option maxRecDepth 20000 in
theorem t_X2_nextEdge_71 {X : MC} {Γ : GG} (C : CX X Γ cX2_nextEdge 7 "TickPools$Market" 1 23) (hr : X.2.2.2.2.2.2.2.2.1.sig.returnType = some .int) {k6 : Nat → Int32 → Int32 → Int32 → Int32 → Int32 → Mem → Option (Int32 × Mem)} {q : Int32 × Mem} (hk6 : ∀ (v0 : Nat) (v1 : Int32) (v2 : Int32) (v3 : Int32) (v4 : Int32) (v5 : Int32) (S : Mem), k6 v0 v1 v2 v3 v4 v5 S = some q → ZZ X Γ 7 (QQ X Γ (some (aI q.1)) q.2) S 6 [(0, aR v0), (1, aI v1), (2, aI v2), (3, aI v3), (4, aI v4), (5, aI v5)] []) (v0 : Nat) (v1 : Int32) (v2 : Int32) (v3 : Int32) (v4 : Int32) (v5 : Int32) (S : Mem) (hf : f_X2_nextEdge_71 k6 v0 v1 v2 v3 v4 v5 S = some q) : ZZ X Γ 7 (QQ X Γ (some (aI q.1)) q.2) S 71 [(0, aR v0), (1, aI v1), (2, aI v2), (3, aI v3), (4, aI v4), (5, aI v5)] [] := by
  unfold f_X2_nextEdge_71 at hf
  refine z_iinc (j := 5) (v := (v5 + 1)) (lv' := [(5, aI (v5 + 1)), (0, aR v0), (1, aI v1), (2, aI v2), (3, aI v3), (4, aI v4)]) C d_X2_nextEdge_71 rfl rfl (by decide) rfl ?_
  refine z_goto (tgt := 6) C d_X2_nextEdge_74 (by decide) ?_
  exact z_sub [1, 2, 3, 4, 5, 0] rfl (hk6 _ _ _ _ _ _ _ hf)
def f_X2_nextEdge_34 (k6 : Nat → Int32 → Int32 → Int32 → Int32 → Int32 → Mem → Option (Int32 × Mem)) (v0 : Nat) (v1 : Int32) (v2 : Int32) (v3 : Int32) (v4 : Int32) (v5 : Int32) (v6 : Nat) (S : Mem) : Option (Int32 × Mem) := (if kd v6 = (6, 8) then (if (gI S v6 1) = v1 then ((f_X2_nearer v4 (gI S v6 2) v2 v3 S).bind fun q52 => ((f_X2_nearer q52.1 (gI q52.2 v6 3) v2 v3 q52.2).bind fun q66 => (f_X2_nextEdge_71 k6 v0 v1 v2 v3 q66.1 v5 q66.2))) else (f_X2_nextEdge_71 k6 v0 v1 v2 v3 v4 v5 S)) else none)
set_option maxRecDepth 20000 in
theorem t_X2_nextEdge_34 {X : MC} {Γ : GG} (C : CX X Γ cX2_nextEdge 7 "TickPools$Market" 1 23) (hr : X.2.2.2.2.2.2.2.2.1.sig.returnType = some .int) {k6 : Nat → Int32 → Int32 → Int32 → Int32 → Int32 → Mem → Option (Int32 × Mem)} {q : Int32 × Mem} (hk6 : ∀ (v0 : Nat) (v1 : Int32) (v2 : Int32) (v3 : Int32) (v4 : Int32) (v5 : Int32) (S : Mem), k6 v0 v1 v2 v3 v4 v5 S = some q → ZZ X Γ 7 (QQ X Γ (some (aI q.1)) q.2) S 6 [(0, aR v0), (1, aI v1), (2, aI v2), (3, aI v3), (4, aI v4), (5, aI v5)] []) (v0 : Nat) (v1 : Int32) (v2 : Int32) (v3 : Int32) (v4 : Int32) (v5 : Int32) (v6 : Nat) (S : Mem) (hf : f_X2_nextEdge_34 k6 v0 v1 v2 v3 v4 v5 v6 S = some q) : ZZ X Γ 7 (QQ X Γ (some (aI q.1)) q.2) S 34 [(0, aR v0), (1, aI v1), (2, aI v2), (3, aI v3), (4, aI v4), (5, aI v5), (6, aR v6)] [] := by
  unfold f_X2_nextEdge_34 at hf
  refine z_aload (j := 6) C d_X2_nextEdge_34 rfl ?_
  obtain ⟨hg36_0, hf⟩ := gd hf
  refine zg_X7_pool C hg36_0 tw_153 d_X2_nextEdge_36 ?_
  refine z_iload_n (j := 1) C d_X2_nextEdge_39 rfl ?_
  refine z_icmp_ne (tgt := 71) C d_X2_nextEdge_40 (by decide) hf (fun c40 hf => ?_) (fun c40 hf => ?_)
  · exact z_sub [0, 1, 2, 3, 4, 5] rfl (t_X2_nextEdge_71 C hr hk6 _ _ _ _ _ _ _ hf)
  · refine z_iload (j := 4) C d_X2_nextEdge_43 rfl ?_
    refine z_aload (j := 6) C d_X2_nextEdge_45 rfl ?_
    refine zg_X7_low C hg36_0 tw_156 d_X2_nextEdge_47 ?_
    refine z_iload_n (j := 2) C d_X2_nextEdge_50 rfl ?_
    refine z_iload_n (j := 3) C d_X2_nextEdge_51 rfl ?_
    obtain ⟨q52, hF, hf⟩ := bd hf
    refine z_callS1 (rest := []) C [aI v4, aI (gI S v6 2), aI v2, aI v3] k_X2_nearer tw_866 ⟨by decide, by decide⟩ (Nat.le_of_ble_eq_true rfl) d_X2_nextEdge_52 (c_X2_nearer C.inj hF) rfl ?_
    refine z_istore (lv' := [(4, aI q52.1), (0, aR v0), (1, aI v1), (2, aI v2), (3, aI v3), (5, aI v5), (6, aR v6)]) C d_X2_nextEdge_55 (by decide) rfl ?_
    refine z_iload (j := 0) C d_X2_nextEdge_57 rfl ?_
    refine z_aload (j := 6) C d_X2_nextEdge_59 rfl ?_
    refine zg_X7_high C hg36_0 tw_159 d_X2_nextEdge_61 ?_
    refine z_iload_n (j := 3) C d_X2_nextEdge_64 rfl ?_
    refine z_iload_n (j := 4) C d_X2_nextEdge_65 rfl ?_
    obtain ⟨q66, hF, hf⟩ := bd hf
    refine z_callS1 (rest := []) C [aI q52.1, aI (gI q52.2 v6 3), aI v2, aI v3] k_X2_nearer tw_866 ⟨by decide, by decide⟩ (Nat.le_of_ble_eq_true rfl) d_X2_nextEdge_66 (c_X2_nearer C.inj hF) rfl ?_
    refine z_istore (lv' := [(4, aI q66.1), (0, aR v0), (1, aI v1), (2, aI v2), (3, aI v3), (5, aI v5), (6, aR v6)]) C d_X2_nextEdge_69 (by decide) rfl ?_
    exact z_sub [1, 2, 3, 4, 0, 5] rfl (t_X2_nextEdge_71 C hr hk6 _ _ _ _ _ _ _ hf)
def f_X2_nextEdge_77 (v4 : Int32) (S : Mem) : Option (Int32 × Mem) := (some (v4, S))
set_option maxRecDepth 20000 in
theorem t_X2_nextEdge_77 {X : MC} {Γ : GG} (C : CX X Γ cX2_nextEdge 7 "TickPools$Market" 1 23) (hr : X.2.2.2.2.2.2.2.2.1.sig.returnType = some .int) {q : Int32 × Mem} (v4 : Int32) (S : Mem) (hf : f_X2_nextEdge_77 v4 S = some q) : ZZ X Γ 7 (QQ X Γ (some (aI q.1)) q.2) S 77 [(4, aI v4)] [] := by
  unfold f_X2_nextEdge_77 at hf
  refine z_iload (j := 0) C d_X2_nextEdge_77 rfl ?_
  exact r_i C hr rfl d_X2_nextEdge_79 hf
def f_X2_nextEdge_6B (k6 : Nat → Int32 → Int32 → Int32 → Int32 → Int32 → Mem → Option (Int32 × Mem)) (v0 : Nat) (v1 : Int32) (v2 : Int32) (v3 : Int32) (v4 : Int32) (v5 : Int32) (S : Mem) : Option (Int32 × Mem) := (if kd v0 = (1, 9) then (if (gI S v0 3) ≤ v5 then (f_X2_nextEdge_77  v4 S) else (if 12 ≤ v5 then (f_X2_nextEdge_77  v4 S) else (if inb v5 12 = true then (f_X2_nextEdge_34 k6 v0 v1 v2 v3 v4 v5 (gR S (v0 + 3) ((v5 : Int32).toNatClampNeg)) S) else none))) else none)
set_option maxRecDepth 20000 in
theorem t_X2_nextEdge_6B {X : MC} {Γ : GG} (C : CX X Γ cX2_nextEdge 7 "TickPools$Market" 1 23) (hr : X.2.2.2.2.2.2.2.2.1.sig.returnType = some .int) {k6 : Nat → Int32 → Int32 → Int32 → Int32 → Int32 → Mem → Option (Int32 × Mem)} {q : Int32 × Mem} (hk6 : ∀ (v0 : Nat) (v1 : Int32) (v2 : Int32) (v3 : Int32) (v4 : Int32) (v5 : Int32) (S : Mem), k6 v0 v1 v2 v3 v4 v5 S = some q → ZZ X Γ 7 (QQ X Γ (some (aI q.1)) q.2) S 6 [(0, aR v0), (1, aI v1), (2, aI v2), (3, aI v3), (4, aI v4), (5, aI v5)] []) (v0 : Nat) (v1 : Int32) (v2 : Int32) (v3 : Int32) (v4 : Int32) (v5 : Int32) (S : Mem) (hf : f_X2_nextEdge_6B k6 v0 v1 v2 v3 v4 v5 S = some q) : ZZ X Γ 7 (QQ X Γ (some (aI q.1)) q.2) S 6 [(0, aR v0), (1, aI v1), (2, aI v2), (3, aI v3), (4, aI v4), (5, aI v5)] [] := by
  unfold f_X2_nextEdge_6B at hf
  refine z_iload (j := 5) C d_X2_nextEdge_6 rfl ?_
  refine z_aload_n (j := 0) C d_X2_nextEdge_8 rfl ?_
  obtain ⟨hg9_0, hf⟩ := gd hf
  refine zg_X2_stakes C hg9_0 tw_200 d_X2_nextEdge_9 ?_
  refine z_icmp_ge (tgt := 77) C d_X2_nextEdge_12 (by decide) hf (fun c12 hf => ?_) (fun c12 hf => ?_)
  · exact z_sub [4] rfl (t_X2_nextEdge_77 C hr  _ _ hf)
  · refine z_iload (j := 5) C d_X2_nextEdge_15 rfl ?_
    refine z_aload_n (j := 0) C d_X2_nextEdge_17 rfl ?_
    refine zg_X2_stakeRow C hg9_0 tw_210 d_X2_nextEdge_18 ?_
    refine z_alen (v := 12) C (kdM3 hg9_0) (by decide) (by decide) d_X2_nextEdge_21 ?_
    refine z_icmp_ge (tgt := 77) C d_X2_nextEdge_22 (by decide) hf (fun c22 hf => ?_) (fun c22 hf => ?_)
    · exact z_sub [4] rfl (t_X2_nextEdge_77 C hr  _ _ hf)
    · refine z_aload_n (j := 0) C d_X2_nextEdge_25 rfl ?_
      refine zg_X2_stakeRow C hg9_0 tw_210 d_X2_nextEdge_26 ?_
      refine z_iload (j := 5) C d_X2_nextEdge_29 rfl ?_
      obtain ⟨hi31_0, hf⟩ := gd hf
      refine z_aldS C (kdM3 hg9_0) hi31_0 d_X2_nextEdge_31 ?_
      refine z_astore (lv' := [(6, aR (gR S (v0 + 3) ((v5 : Int32).toNatClampNeg))), (0, aR v0), (1, aI v1), (2, aI v2), (3, aI v3), (4, aI v4), (5, aI v5)]) C d_X2_nextEdge_32 (by decide) rfl ?_
      exact z_sub [1, 2, 3, 4, 5, 6, 0] rfl (t_X2_nextEdge_34 C hr hk6 _ _ _ _ _ _ _ _ hf)
def f_X2_nextEdge_6 : Nat → Nat → Int32 → Int32 → Int32 → Int32 → Int32 → Mem → Option (Int32 × Mem)
  | 0 => fun _ _ _ _ _ _ _ => none
  | n + 1 => f_X2_nextEdge_6B (f_X2_nextEdge_6 n)
theorem t_X2_nextEdge_6 {X : MC} {Γ : GG} (C : CX X Γ cX2_nextEdge 7 "TickPools$Market" 1 23) (hr : X.2.2.2.2.2.2.2.2.1.sig.returnType = some .int) {q : Int32 × Mem} : ∀ (n : Nat) (v0 : Nat) (v1 : Int32) (v2 : Int32) (v3 : Int32) (v4 : Int32) (v5 : Int32) (S : Mem) (hf : f_X2_nextEdge_6 n v0 v1 v2 v3 v4 v5 S = some q), ZZ X Γ 7 (QQ X Γ (some (aI q.1)) q.2) S 6 [(0, aR v0), (1, aI v1), (2, aI v2), (3, aI v3), (4, aI v4), (5, aI v5)] []
  | 0, _, _, _, _, _, _, _, hf => nomatch (show (none : Option (Int32 × Mem)) = some q from hf)
  | n + 1, v0, v1, v2, v3, v4, v5, S, hf => t_X2_nextEdge_6B C hr (t_X2_nextEdge_6 C hr n) v0 v1 v2 v3 v4 v5 S hf
/-- TickPools$Market.nextEdge(III)I -/
def f_X2_nextEdge (h0 : Nat) (p1 : Int32) (p2 : Int32) (p3 : Int32) (S : Mem) : Option (Int32 × Mem) := (f_X2_nextEdge_6  100000 h0 p1 p2 p3 (-1) 0 S)
set_option maxRecDepth 20000 in
theorem c_X2_nextEdge {l : Launch} {Γ : GG} (hI : Inj Γ) {h0 : Nat} {p1 : Int32} {p2 : Int32} {p3 : Int32} {S : Mem} {q : Int32 × Mem} (hf : f_X2_nextEdge h0 p1 p2 p3 S = some q) : MM l Γ yX2_nextEdge cX2_nextEdge 7 (some .int) 1 23 [aR h0, aI p1, aI p2, aI p3] S (some (aI q.1)) q.2 := by
  refine met_of hI "TickPools$Market" rfl (by decide +kernel) (Nat.le_of_ble_eq_true rfl) (fun X hX C hr => ?_)
  unfold f_X2_nextEdge at hf
  show ZZ X Γ 7 _ S 0 [(0, aR h0), (1, aI p1), (2, aI p2), (3, aI p3)] []
  refine z_iconst (v := (-1)) C d_X2_nextEdge_0 (by decide) ?_
  refine z_istore (lv' := [(4, aI (-1)), (0, aR h0), (1, aI p1), (2, aI p2), (3, aI p3)]) C d_X2_nextEdge_1 (by decide) rfl ?_
  refine z_iconst (v := 0) C d_X2_nextEdge_3 (by decide) ?_
  refine z_istore (lv' := [(5, aI 0), (4, aI (-1)), (0, aR h0), (1, aI p1), (2, aI p2), (3, aI p3)]) C d_X2_nextEdge_4 (by decide) rfl ?_
  exact z_sub [2, 3, 4, 5, 1, 0] rfl (t_X2_nextEdge_6 C hr  100000 _ _ _ _ _ _ _ hf)
theorem d_X10_aimBefore_0 : decode cX10_aimBefore 0 = .ok (.aload_n 0, 1) := by decide +kernel
theorem d_X10_aimBefore_1 : decode cX10_aimBefore 1 = .ok (.getfield 40, 3) := by decide +kernel
theorem d_X10_aimBefore_4 : decode cX10_aimBefore 4 = .ok (.aload_n 0, 1) := by decide +kernel
theorem d_X10_aimBefore_5 : decode cX10_aimBefore 5 = .ok (.getfield 44, 3) := by decide +kernel
theorem d_X10_aimBefore_8 : decode cX10_aimBefore 8 = .ok (.aload_n 0, 1) := by decide +kernel
theorem d_X10_aimBefore_9 : decode cX10_aimBefore 9 = .ok (.getfield 19, 3) := by decide +kernel
theorem d_X10_aimBefore_12 : decode cX10_aimBefore 12 = .ok (.aload_n 0, 1) := by decide +kernel
theorem d_X10_aimBefore_13 : decode cX10_aimBefore 13 = .ok (.getfield 15, 3) := by decide +kernel
theorem d_X10_aimBefore_16 : decode cX10_aimBefore 16 = .ok (.invokevirtual 140, 3) := by decide +kernel
theorem d_X10_aimBefore_19 : decode cX10_aimBefore 19 = .ok (.istore_n 2, 1) := by decide +kernel
theorem d_X10_aimBefore_20 : decode cX10_aimBefore 20 = .ok (.aload_n 0, 1) := by decide +kernel
theorem d_X10_aimBefore_21 : decode cX10_aimBefore 21 = .ok (.getfield 15, 3) := by decide +kernel
theorem d_X10_aimBefore_24 : decode cX10_aimBefore 24 = .ok (.ifCond .ne 16, 3) := by decide +kernel
theorem d_X10_aimBefore_27 : decode cX10_aimBefore 27 = .ok (.iload_n 1, 1) := by decide +kernel
theorem d_X10_aimBefore_28 : decode cX10_aimBefore 28 = .ok (.iload_n 2, 1) := by decide +kernel
theorem d_X10_aimBefore_29 : decode cX10_aimBefore 29 = .ok (.if_icmp .lt 7, 3) := by decide +kernel
theorem d_X10_aimBefore_32 : decode cX10_aimBefore 32 = .ok (.iconst 1, 1) := by decide +kernel
theorem d_X10_aimBefore_33 : decode cX10_aimBefore 33 = .ok (.goto 17, 3) := by decide +kernel
theorem d_X10_aimBefore_36 : decode cX10_aimBefore 36 = .ok (.iconst 0, 1) := by decide +kernel
theorem d_X10_aimBefore_37 : decode cX10_aimBefore 37 = .ok (.goto 13, 3) := by decide +kernel
theorem d_X10_aimBefore_40 : decode cX10_aimBefore 40 = .ok (.iload_n 1, 1) := by decide +kernel
theorem d_X10_aimBefore_41 : decode cX10_aimBefore 41 = .ok (.iload_n 2, 1) := by decide +kernel
theorem d_X10_aimBefore_42 : decode cX10_aimBefore 42 = .ok (.if_icmp .gt 7, 3) := by decide +kernel
theorem d_X10_aimBefore_45 : decode cX10_aimBefore 45 = .ok (.iconst 1, 1) := by decide +kernel
theorem d_X10_aimBefore_46 : decode cX10_aimBefore 46 = .ok (.goto 4, 3) := by decide +kernel
theorem d_X10_aimBefore_49 : decode cX10_aimBefore 49 = .ok (.iconst 0, 1) := by decide +kernel
theorem d_X10_aimBefore_50 : decode cX10_aimBefore 50 = .ok (.istore_n 3, 1) := by decide +kernel
theorem d_X10_aimBefore_51 : decode cX10_aimBefore 51 = .ok (.iload_n 2, 1) := by decide +kernel
theorem d_X10_aimBefore_52 : decode cX10_aimBefore 52 = .ok (.iconst (-1), 1) := by decide +kernel
theorem d_X10_aimBefore_53 : decode cX10_aimBefore 53 = .ok (.if_icmp .eq 7, 3) := by decide +kernel
theorem d_X10_aimBefore_56 : decode cX10_aimBefore 56 = .ok (.iload_n 3, 1) := by decide +kernel
theorem d_X10_aimBefore_57 : decode cX10_aimBefore 57 = .ok (.ifCond .eq 7, 3) := by decide +kernel
theorem d_X10_aimBefore_60 : decode cX10_aimBefore 60 = .ok (.iload_n 1, 1) := by decide +kernel
theorem d_X10_aimBefore_61 : decode cX10_aimBefore 61 = .ok (.goto 4, 3) := by decide +kernel
theorem d_X10_aimBefore_64 : decode cX10_aimBefore 64 = .ok (.iload_n 2, 1) := by decide +kernel
theorem d_X10_aimBefore_65 : decode cX10_aimBefore 65 = .ok (.ireturn, 1) := by decide +kernel
def f_X10_aimBefore_65 (s0 : Int32) (S : Mem) : Option (Int32 × Mem) := (some (s0, S))
set_option maxRecDepth 20000 in
theorem t_X10_aimBefore_65 {X : MC} {Γ : GG} (C : CX X Γ cX10_aimBefore 4 "TickPools$Trade" 2 49) (hr : X.2.2.2.2.2.2.2.2.1.sig.returnType = some .int) {q : Int32 × Mem} (s0 : Int32) (S : Mem) (hf : f_X10_aimBefore_65 s0 S = some q) : ZZ X Γ 4 (QQ X Γ (some (aI q.1)) q.2) S 65 [] [aI s0] := by
  unfold f_X10_aimBefore_65 at hf
  exact r_i C hr rfl d_X10_aimBefore_65 hf
def f_X10_aimBefore_60 (v1 : Int32) (S : Mem) : Option (Int32 × Mem) := (f_X10_aimBefore_65  v1 S)
set_option maxRecDepth 20000 in
theorem t_X10_aimBefore_60 {X : MC} {Γ : GG} (C : CX X Γ cX10_aimBefore 4 "TickPools$Trade" 2 49) (hr : X.2.2.2.2.2.2.2.2.1.sig.returnType = some .int) {q : Int32 × Mem} (v1 : Int32) (S : Mem) (hf : f_X10_aimBefore_60 v1 S = some q) : ZZ X Γ 4 (QQ X Γ (some (aI q.1)) q.2) S 60 [(1, aI v1)] [] := by
  unfold f_X10_aimBefore_60 at hf
  refine z_iload_n (j := 0) C d_X10_aimBefore_60 rfl ?_
  refine z_goto (tgt := 65) C d_X10_aimBefore_61 (by decide) ?_
  exact z_sub [] rfl (t_X10_aimBefore_65 C hr  _ _ hf)
def f_X10_aimBefore_50 (v1 : Int32) (v2 : Int32) (s0 : Int32) (S : Mem) : Option (Int32 × Mem) := (if v2 = (-1) then (f_X10_aimBefore_60  v1 S) else (if s0 = 0 then (f_X10_aimBefore_65  v2 S) else (f_X10_aimBefore_60  v1 S)))
set_option maxRecDepth 20000 in
theorem t_X10_aimBefore_50 {X : MC} {Γ : GG} (C : CX X Γ cX10_aimBefore 4 "TickPools$Trade" 2 49) (hr : X.2.2.2.2.2.2.2.2.1.sig.returnType = some .int) {q : Int32 × Mem} (v1 : Int32) (v2 : Int32) (s0 : Int32) (S : Mem) (hf : f_X10_aimBefore_50 v1 v2 s0 S = some q) : ZZ X Γ 4 (QQ X Γ (some (aI q.1)) q.2) S 50 [(1, aI v1), (2, aI v2)] [aI s0] := by
  unfold f_X10_aimBefore_50 at hf
  refine z_istore_n (lv' := [(3, aI s0), (1, aI v1), (2, aI v2)]) C d_X10_aimBefore_50 (by decide) rfl ?_
  refine z_iload_n (j := 2) C d_X10_aimBefore_51 rfl ?_
  refine z_iconst (v := (-1)) C d_X10_aimBefore_52 (by decide) ?_
  refine z_icmp_eq (tgt := 60) C d_X10_aimBefore_53 (by decide) hf (fun c53 hf => ?_) (fun c53 hf => ?_)
  · exact z_sub [1] rfl (t_X10_aimBefore_60 C hr  _ _ hf)
  · refine z_iload_n (j := 0) C d_X10_aimBefore_56 rfl ?_
    refine z_if_eq (tgt := 64) C d_X10_aimBefore_57 (by decide) hf (fun c57 hf => ?_) (fun c57 hf => ?_)
    · refine z_iload_n (j := 2) C d_X10_aimBefore_64 rfl ?_
      exact z_sub [] rfl (t_X10_aimBefore_65 C hr  _ _ hf)
    · exact z_sub [1] rfl (t_X10_aimBefore_60 C hr  _ _ hf)
/-- TickPools$Trade.aimBefore(I)I -/
def f_X10_aimBefore (p1 : Int32) (S : Mem) : Option (Int32 × Mem) := (if kd (gR S 4 0) = (1, 9) then ((f_X2_nextEdge (gR S 4 0) (gI S 4 2) (gI S 4 8) (gI S 4 3) S).bind fun q16 => (if (gI q16.2 4 3) = 0 then (if p1 < q16.1 then (f_X10_aimBefore_50  p1 q16.1 0 q16.2) else (f_X10_aimBefore_50  p1 q16.1 1 q16.2)) else (if q16.1 < p1 then (f_X10_aimBefore_50  p1 q16.1 0 q16.2) else (f_X10_aimBefore_50  p1 q16.1 1 q16.2)))) else none)
set_option maxRecDepth 20000 in
theorem c_X10_aimBefore {l : Launch} {Γ : GG} (hI : Inj Γ) {p1 : Int32} {S : Mem} {q : Int32 × Mem} (hf : f_X10_aimBefore p1 S = some q) : MM l Γ yX10_aimBefore cX10_aimBefore 4 (some .int) 2 49 [aR 4, aI p1] S (some (aI q.1)) q.2 := by
  refine met_of hI "TickPools$Trade" rfl (by decide +kernel) (Nat.le_of_ble_eq_true rfl) (fun X hX C hr => ?_)
  unfold f_X10_aimBefore at hf
  show ZZ X Γ 4 _ S 0 [(0, aR 4), (1, aI p1)] []
  refine z_aload_n (j := 0) C d_X10_aimBefore_0 rfl ?_
  refine zg_X10_market C rfl tw_236 d_X10_aimBefore_1 ?_
  refine z_aload_n (j := 0) C d_X10_aimBefore_4 rfl ?_
  refine zg_X10_poolNumber C rfl tw_238 d_X10_aimBefore_5 ?_
  refine z_aload_n (j := 0) C d_X10_aimBefore_8 rfl ?_
  refine zg_X10_zone C rfl tw_244 d_X10_aimBefore_9 ?_
  refine z_aload_n (j := 0) C d_X10_aimBefore_12 rfl ?_
  refine zg_X10_side C rfl tw_239 d_X10_aimBefore_13 ?_
  obtain ⟨hg16_0, hf⟩ := gd hf
  obtain ⟨q16, hF, hf⟩ := bd hf
  refine z_callV1 (rest := []) C [aI (gI S 4 2), aI (gI S 4 8), aI (gI S 4 3)] hg16_0 (by decide) rfl rfl k_X2_nextEdge tw_862 ⟨by decide, by decide⟩ (Nat.le_of_ble_eq_true rfl) d_X10_aimBefore_16 (c_X2_nextEdge C.inj hF) rfl ?_
  refine z_istore_n (lv' := [(2, aI q16.1), (0, aR 4), (1, aI p1)]) C d_X10_aimBefore_19 (by decide) rfl ?_
  refine z_aload_n (j := 1) C d_X10_aimBefore_20 rfl ?_
  refine zg_X10_side C rfl tw_239 d_X10_aimBefore_21 ?_
  refine z_if_ne (tgt := 40) C d_X10_aimBefore_24 (by decide) hf (fun c24 hf => ?_) (fun c24 hf => ?_)
  · refine z_iload_n (j := 2) C d_X10_aimBefore_40 rfl ?_
    refine z_iload_n (j := 0) C d_X10_aimBefore_41 rfl ?_
    refine z_icmp_gt (tgt := 49) C d_X10_aimBefore_42 (by decide) hf (fun c42 hf => ?_) (fun c42 hf => ?_)
    · refine z_iconst (v := 0) C d_X10_aimBefore_49 (by decide) ?_
      exact z_sub [2, 0] rfl (t_X10_aimBefore_50 C hr  _ _ _ _ hf)
    · refine z_iconst (v := 1) C d_X10_aimBefore_45 (by decide) ?_
      refine z_goto (tgt := 50) C d_X10_aimBefore_46 (by decide) ?_
      exact z_sub [2, 0] rfl (t_X10_aimBefore_50 C hr  _ _ _ _ hf)
  · refine z_iload_n (j := 2) C d_X10_aimBefore_27 rfl ?_
    refine z_iload_n (j := 0) C d_X10_aimBefore_28 rfl ?_
    refine z_icmp_lt (tgt := 36) C d_X10_aimBefore_29 (by decide) hf (fun c29 hf => ?_) (fun c29 hf => ?_)
    · refine z_iconst (v := 0) C d_X10_aimBefore_36 (by decide) ?_
      refine z_goto (tgt := 50) C d_X10_aimBefore_37 (by decide) ?_
      exact z_sub [2, 0] rfl (t_X10_aimBefore_50 C hr  _ _ _ _ hf)
    · refine z_iconst (v := 1) C d_X10_aimBefore_32 (by decide) ?_
      refine z_goto (tgt := 50) C d_X10_aimBefore_33 (by decide) ?_
      exact z_sub [2, 0] rfl (t_X10_aimBefore_50 C hr  _ _ _ _ hf)
theorem d_X2_liquidityAt_0 : decode cX2_liquidityAt 0 = .ok (.lconst 0, 1) := by decide +kernel
theorem d_X2_liquidityAt_1 : decode cX2_liquidityAt 1 = .ok (.lstore_n 3, 1) := by decide +kernel
theorem d_X2_liquidityAt_2 : decode cX2_liquidityAt 2 = .ok (.iconst 0, 1) := by decide +kernel
theorem d_X2_liquidityAt_3 : decode cX2_liquidityAt 3 = .ok (.istore 5, 2) := by decide +kernel
theorem d_X2_liquidityAt_5 : decode cX2_liquidityAt 5 = .ok (.iload 5, 2) := by decide +kernel
theorem d_X2_liquidityAt_7 : decode cX2_liquidityAt 7 = .ok (.aload_n 0, 1) := by decide +kernel
theorem d_X2_liquidityAt_8 : decode cX2_liquidityAt 8 = .ok (.getfield 39, 3) := by decide +kernel
theorem d_X2_liquidityAt_11 : decode cX2_liquidityAt 11 = .ok (.if_icmp .ge 64, 3) := by decide +kernel
theorem d_X2_liquidityAt_14 : decode cX2_liquidityAt 14 = .ok (.iload 5, 2) := by decide +kernel
theorem d_X2_liquidityAt_16 : decode cX2_liquidityAt 16 = .ok (.aload_n 0, 1) := by decide +kernel
theorem d_X2_liquidityAt_17 : decode cX2_liquidityAt 17 = .ok (.getfield 24, 3) := by decide +kernel
theorem d_X2_liquidityAt_20 : decode cX2_liquidityAt 20 = .ok (.arraylength, 1) := by decide +kernel
theorem d_X2_liquidityAt_21 : decode cX2_liquidityAt 21 = .ok (.if_icmp .ge 54, 3) := by decide +kernel
theorem d_X2_liquidityAt_24 : decode cX2_liquidityAt 24 = .ok (.aload_n 0, 1) := by decide +kernel
theorem d_X2_liquidityAt_25 : decode cX2_liquidityAt 25 = .ok (.getfield 24, 3) := by decide +kernel
theorem d_X2_liquidityAt_28 : decode cX2_liquidityAt 28 = .ok (.iload 5, 2) := by decide +kernel
theorem d_X2_liquidityAt_30 : decode cX2_liquidityAt 30 = .ok (.aaload, 1) := by decide +kernel
theorem d_X2_liquidityAt_31 : decode cX2_liquidityAt 31 = .ok (.astore 6, 2) := by decide +kernel
theorem d_X2_liquidityAt_33 : decode cX2_liquidityAt 33 = .ok (.aload 6, 2) := by decide +kernel
theorem d_X2_liquidityAt_35 : decode cX2_liquidityAt 35 = .ok (.getfield 86, 3) := by decide +kernel
theorem d_X2_liquidityAt_38 : decode cX2_liquidityAt 38 = .ok (.iload_n 1, 1) := by decide +kernel
theorem d_X2_liquidityAt_39 : decode cX2_liquidityAt 39 = .ok (.if_icmp .ne 30, 3) := by decide +kernel
theorem d_X2_liquidityAt_42 : decode cX2_liquidityAt 42 = .ok (.aload 6, 2) := by decide +kernel
theorem d_X2_liquidityAt_44 : decode cX2_liquidityAt 44 = .ok (.getfield 89, 3) := by decide +kernel
theorem d_X2_liquidityAt_47 : decode cX2_liquidityAt 47 = .ok (.iload_n 2, 1) := by decide +kernel
theorem d_X2_liquidityAt_48 : decode cX2_liquidityAt 48 = .ok (.if_icmp .gt 21, 3) := by decide +kernel
theorem d_X2_liquidityAt_51 : decode cX2_liquidityAt 51 = .ok (.aload 6, 2) := by decide +kernel
theorem d_X2_liquidityAt_53 : decode cX2_liquidityAt 53 = .ok (.getfield 92, 3) := by decide +kernel
theorem d_X2_liquidityAt_56 : decode cX2_liquidityAt 56 = .ok (.iload_n 2, 1) := by decide +kernel
theorem d_X2_liquidityAt_57 : decode cX2_liquidityAt 57 = .ok (.if_icmp .le 12, 3) := by decide +kernel
theorem d_X2_liquidityAt_60 : decode cX2_liquidityAt 60 = .ok (.lload_n 3, 1) := by decide +kernel
theorem d_X2_liquidityAt_61 : decode cX2_liquidityAt 61 = .ok (.aload 6, 2) := by decide +kernel
theorem d_X2_liquidityAt_63 : decode cX2_liquidityAt 63 = .ok (.getfield 95, 3) := by decide +kernel
theorem d_X2_liquidityAt_66 : decode cX2_liquidityAt 66 = .ok (.i2l, 1) := by decide +kernel
theorem d_X2_liquidityAt_67 : decode cX2_liquidityAt 67 = .ok (.ladd, 1) := by decide +kernel
theorem d_X2_liquidityAt_68 : decode cX2_liquidityAt 68 = .ok (.lstore_n 3, 1) := by decide +kernel
theorem d_X2_liquidityAt_69 : decode cX2_liquidityAt 69 = .ok (.iinc 5 1, 3) := by decide +kernel
theorem d_X2_liquidityAt_72 : decode cX2_liquidityAt 72 = .ok (.goto (-67), 3) := by decide +kernel
theorem d_X2_liquidityAt_75 : decode cX2_liquidityAt 75 = .ok (.lload_n 3, 1) := by decide +kernel
theorem d_X2_liquidityAt_76 : decode cX2_liquidityAt 76 = .ok (.lreturn, 1) := by decide +kernel
def f_X2_liquidityAt_69 (k5 : Nat → Int32 → Int32 → Int64 → Int32 → Mem → Option (Int64 × Mem)) (v0 : Nat) (v1 : Int32) (v2 : Int32) (v3 : Int64) (v5 : Int32) (S : Mem) : Option (Int64 × Mem) := (k5 v0 v1 v2 v3 (v5 + 1) S)
set_option maxRecDepth 20000 in
theorem t_X2_liquidityAt_69 {X : MC} {Γ : GG} (C : CX X Γ cX2_liquidityAt 7 "TickPools$Market" 0 0) (hr : X.2.2.2.2.2.2.2.2.1.sig.returnType = some .long) {k5 : Nat → Int32 → Int32 → Int64 → Int32 → Mem → Option (Int64 × Mem)} {q : Int64 × Mem} (hk5 : ∀ (v0 : Nat) (v1 : Int32) (v2 : Int32) (v3 : Int64) (v5 : Int32) (S : Mem), k5 v0 v1 v2 v3 v5 S = some q → ZZ X Γ 7 (QQ X Γ (some (aJ q.1)) q.2) S 5 [(0, aR v0), (1, aI v1), (2, aI v2), (3, aJ v3), (5, aI v5)] []) (v0 : Nat) (v1 : Int32) (v2 : Int32) (v3 : Int64) (v5 : Int32) (S : Mem) (hf : f_X2_liquidityAt_69 k5 v0 v1 v2 v3 v5 S = some q) : ZZ X Γ 7 (QQ X Γ (some (aJ q.1)) q.2) S 69 [(0, aR v0), (1, aI v1), (2, aI v2), (3, aJ v3), (5, aI v5)] [] := by
  unfold f_X2_liquidityAt_69 at hf
  refine z_iinc (j := 4) (v := (v5 + 1)) (lv' := [(5, aI (v5 + 1)), (0, aR v0), (1, aI v1), (2, aI v2), (3, aJ v3)]) C d_X2_liquidityAt_69 rfl rfl (by decide) rfl ?_
  refine z_goto (tgt := 5) C d_X2_liquidityAt_72 (by decide) ?_
  exact z_sub [1, 2, 3, 4, 0] rfl (hk5 _ _ _ _ _ _ hf)
def f_X2_liquidityAt_33 (k5 : Nat → Int32 → Int32 → Int64 → Int32 → Mem → Option (Int64 × Mem)) (v0 : Nat) (v1 : Int32) (v2 : Int32) (v3 : Int64) (v5 : Int32) (v6 : Nat) (S : Mem) : Option (Int64 × Mem) := (if kd v6 = (6, 8) then (if (gI S v6 1) = v1 then (if v2 < (gI S v6 2) then (f_X2_liquidityAt_69 k5 v0 v1 v2 v3 v5 S) else (if (gI S v6 3) ≤ v2 then (f_X2_liquidityAt_69 k5 v0 v1 v2 v3 v5 S) else (f_X2_liquidityAt_69 k5 v0 v1 v2 (v3 + (((gI S v6 5) : Int32).toInt64)) v5 S))) else (f_X2_liquidityAt_69 k5 v0 v1 v2 v3 v5 S)) else none)
set_option maxRecDepth 20000 in
theorem t_X2_liquidityAt_33 {X : MC} {Γ : GG} (C : CX X Γ cX2_liquidityAt 7 "TickPools$Market" 0 0) (hr : X.2.2.2.2.2.2.2.2.1.sig.returnType = some .long) {k5 : Nat → Int32 → Int32 → Int64 → Int32 → Mem → Option (Int64 × Mem)} {q : Int64 × Mem} (hk5 : ∀ (v0 : Nat) (v1 : Int32) (v2 : Int32) (v3 : Int64) (v5 : Int32) (S : Mem), k5 v0 v1 v2 v3 v5 S = some q → ZZ X Γ 7 (QQ X Γ (some (aJ q.1)) q.2) S 5 [(0, aR v0), (1, aI v1), (2, aI v2), (3, aJ v3), (5, aI v5)] []) (v0 : Nat) (v1 : Int32) (v2 : Int32) (v3 : Int64) (v5 : Int32) (v6 : Nat) (S : Mem) (hf : f_X2_liquidityAt_33 k5 v0 v1 v2 v3 v5 v6 S = some q) : ZZ X Γ 7 (QQ X Γ (some (aJ q.1)) q.2) S 33 [(0, aR v0), (1, aI v1), (2, aI v2), (3, aJ v3), (5, aI v5), (6, aR v6)] [] := by
  unfold f_X2_liquidityAt_33 at hf
  refine z_aload (j := 5) C d_X2_liquidityAt_33 rfl ?_
  obtain ⟨hg35_0, hf⟩ := gd hf
  refine zg_X7_pool C hg35_0 tw_153 d_X2_liquidityAt_35 ?_
  refine z_iload_n (j := 1) C d_X2_liquidityAt_38 rfl ?_
  refine z_icmp_ne (tgt := 69) C d_X2_liquidityAt_39 (by decide) hf (fun c39 hf => ?_) (fun c39 hf => ?_)
  · exact z_sub [0, 1, 2, 3, 4] rfl (t_X2_liquidityAt_69 C hr hk5 _ _ _ _ _ _ hf)
  · refine z_aload (j := 5) C d_X2_liquidityAt_42 rfl ?_
    refine zg_X7_low C hg35_0 tw_156 d_X2_liquidityAt_44 ?_
    refine z_iload_n (j := 2) C d_X2_liquidityAt_47 rfl ?_
    refine z_icmp_gt (tgt := 69) C d_X2_liquidityAt_48 (by decide) hf (fun c48 hf => ?_) (fun c48 hf => ?_)
    · exact z_sub [0, 1, 2, 3, 4] rfl (t_X2_liquidityAt_69 C hr hk5 _ _ _ _ _ _ hf)
    · refine z_aload (j := 5) C d_X2_liquidityAt_51 rfl ?_
      refine zg_X7_high C hg35_0 tw_159 d_X2_liquidityAt_53 ?_
      refine z_iload_n (j := 2) C d_X2_liquidityAt_56 rfl ?_
      refine z_icmp_le (tgt := 69) C d_X2_liquidityAt_57 (by decide) hf (fun c57 hf => ?_) (fun c57 hf => ?_)
      · exact z_sub [0, 1, 2, 3, 4] rfl (t_X2_liquidityAt_69 C hr hk5 _ _ _ _ _ _ hf)
      · refine z_lload_n (j := 3) C d_X2_liquidityAt_60 rfl ?_
        refine z_aload (j := 5) C d_X2_liquidityAt_61 rfl ?_
        refine zg_X7_liquidity C hg35_0 tw_166 d_X2_liquidityAt_63 ?_
        refine z_i2l C d_X2_liquidityAt_66 ?_
        refine z_ladd C d_X2_liquidityAt_67 ?_
        refine z_lstore_n (lv' := [(3, aJ (v3 + (((gI S v6 5) : Int32).toInt64))), (0, aR v0), (1, aI v1), (2, aI v2), (5, aI v5), (6, aR v6)]) C d_X2_liquidityAt_68 (by decide) rfl ?_
        exact z_sub [1, 2, 3, 0, 4] rfl (t_X2_liquidityAt_69 C hr hk5 _ _ _ _ _ _ hf)
def f_X2_liquidityAt_75 (v3 : Int64) (S : Mem) : Option (Int64 × Mem) := (some (v3, S))
set_option maxRecDepth 20000 in
theorem t_X2_liquidityAt_75 {X : MC} {Γ : GG} (C : CX X Γ cX2_liquidityAt 7 "TickPools$Market" 0 0) (hr : X.2.2.2.2.2.2.2.2.1.sig.returnType = some .long) {q : Int64 × Mem} (v3 : Int64) (S : Mem) (hf : f_X2_liquidityAt_75 v3 S = some q) : ZZ X Γ 7 (QQ X Γ (some (aJ q.1)) q.2) S 75 [(3, aJ v3)] [] := by
  unfold f_X2_liquidityAt_75 at hf
  refine z_lload_n (j := 0) C d_X2_liquidityAt_75 rfl ?_
  exact r_l C hr d_X2_liquidityAt_76 hf
def f_X2_liquidityAt_5B (k5 : Nat → Int32 → Int32 → Int64 → Int32 → Mem → Option (Int64 × Mem)) (v0 : Nat) (v1 : Int32) (v2 : Int32) (v3 : Int64) (v5 : Int32) (S : Mem) : Option (Int64 × Mem) := (if kd v0 = (1, 9) then (if (gI S v0 3) ≤ v5 then (f_X2_liquidityAt_75  v3 S) else (if 12 ≤ v5 then (f_X2_liquidityAt_75  v3 S) else (if inb v5 12 = true then (f_X2_liquidityAt_33 k5 v0 v1 v2 v3 v5 (gR S (v0 + 3) ((v5 : Int32).toNatClampNeg)) S) else none))) else none)
set_option maxRecDepth 20000 in
theorem t_X2_liquidityAt_5B {X : MC} {Γ : GG} (C : CX X Γ cX2_liquidityAt 7 "TickPools$Market" 0 0) (hr : X.2.2.2.2.2.2.2.2.1.sig.returnType = some .long) {k5 : Nat → Int32 → Int32 → Int64 → Int32 → Mem → Option (Int64 × Mem)} {q : Int64 × Mem} (hk5 : ∀ (v0 : Nat) (v1 : Int32) (v2 : Int32) (v3 : Int64) (v5 : Int32) (S : Mem), k5 v0 v1 v2 v3 v5 S = some q → ZZ X Γ 7 (QQ X Γ (some (aJ q.1)) q.2) S 5 [(0, aR v0), (1, aI v1), (2, aI v2), (3, aJ v3), (5, aI v5)] []) (v0 : Nat) (v1 : Int32) (v2 : Int32) (v3 : Int64) (v5 : Int32) (S : Mem) (hf : f_X2_liquidityAt_5B k5 v0 v1 v2 v3 v5 S = some q) : ZZ X Γ 7 (QQ X Γ (some (aJ q.1)) q.2) S 5 [(0, aR v0), (1, aI v1), (2, aI v2), (3, aJ v3), (5, aI v5)] [] := by
  unfold f_X2_liquidityAt_5B at hf
  refine z_iload (j := 4) C d_X2_liquidityAt_5 rfl ?_
  refine z_aload_n (j := 0) C d_X2_liquidityAt_7 rfl ?_
  obtain ⟨hg8_0, hf⟩ := gd hf
  refine zg_X2_stakes C hg8_0 tw_200 d_X2_liquidityAt_8 ?_
  refine z_icmp_ge (tgt := 75) C d_X2_liquidityAt_11 (by decide) hf (fun c11 hf => ?_) (fun c11 hf => ?_)
  · exact z_sub [3] rfl (t_X2_liquidityAt_75 C hr  _ _ hf)
  · refine z_iload (j := 4) C d_X2_liquidityAt_14 rfl ?_
    refine z_aload_n (j := 0) C d_X2_liquidityAt_16 rfl ?_
    refine zg_X2_stakeRow C hg8_0 tw_210 d_X2_liquidityAt_17 ?_
    refine z_alen (v := 12) C (kdM3 hg8_0) (by decide) (by decide) d_X2_liquidityAt_20 ?_
    refine z_icmp_ge (tgt := 75) C d_X2_liquidityAt_21 (by decide) hf (fun c21 hf => ?_) (fun c21 hf => ?_)
    · exact z_sub [3] rfl (t_X2_liquidityAt_75 C hr  _ _ hf)
    · refine z_aload_n (j := 0) C d_X2_liquidityAt_24 rfl ?_
      refine zg_X2_stakeRow C hg8_0 tw_210 d_X2_liquidityAt_25 ?_
      refine z_iload (j := 4) C d_X2_liquidityAt_28 rfl ?_
      obtain ⟨hi30_0, hf⟩ := gd hf
      refine z_aldS C (kdM3 hg8_0) hi30_0 d_X2_liquidityAt_30 ?_
      refine z_astore (lv' := [(6, aR (gR S (v0 + 3) ((v5 : Int32).toNatClampNeg))), (0, aR v0), (1, aI v1), (2, aI v2), (3, aJ v3), (5, aI v5)]) C d_X2_liquidityAt_31 (by decide) rfl ?_
      exact z_sub [1, 2, 3, 4, 5, 0] rfl (t_X2_liquidityAt_33 C hr hk5 _ _ _ _ _ _ _ hf)
def f_X2_liquidityAt_5 : Nat → Nat → Int32 → Int32 → Int64 → Int32 → Mem → Option (Int64 × Mem)
  | 0 => fun _ _ _ _ _ _ => none
  | n + 1 => f_X2_liquidityAt_5B (f_X2_liquidityAt_5 n)
theorem t_X2_liquidityAt_5 {X : MC} {Γ : GG} (C : CX X Γ cX2_liquidityAt 7 "TickPools$Market" 0 0) (hr : X.2.2.2.2.2.2.2.2.1.sig.returnType = some .long) {q : Int64 × Mem} : ∀ (n : Nat) (v0 : Nat) (v1 : Int32) (v2 : Int32) (v3 : Int64) (v5 : Int32) (S : Mem) (hf : f_X2_liquidityAt_5 n v0 v1 v2 v3 v5 S = some q), ZZ X Γ 7 (QQ X Γ (some (aJ q.1)) q.2) S 5 [(0, aR v0), (1, aI v1), (2, aI v2), (3, aJ v3), (5, aI v5)] []
  | 0, _, _, _, _, _, _, hf => nomatch (show (none : Option (Int64 × Mem)) = some q from hf)
  | n + 1, v0, v1, v2, v3, v5, S, hf => t_X2_liquidityAt_5B C hr (t_X2_liquidityAt_5 C hr n) v0 v1 v2 v3 v5 S hf
/-- TickPools$Market.liquidityAt(II)J -/
def f_X2_liquidityAt (h0 : Nat) (p1 : Int32) (p2 : Int32) (S : Mem) : Option (Int64 × Mem) := (f_X2_liquidityAt_5  100000 h0 p1 p2 0 0 S)
set_option maxRecDepth 20000 in
theorem c_X2_liquidityAt {l : Launch} {Γ : GG} (hI : Inj Γ) {h0 : Nat} {p1 : Int32} {p2 : Int32} {S : Mem} {q : Int64 × Mem} (hf : f_X2_liquidityAt h0 p1 p2 S = some q) : MM l Γ yX2_liquidityAt cX2_liquidityAt 7 (some .long) 0 0 [aR h0, aI p1, aI p2] S (some (aJ q.1)) q.2 := by
  refine met_of hI "TickPools$Market" rfl (by decide +kernel) (Nat.le_of_ble_eq_true rfl) (fun X hX C hr => ?_)
  unfold f_X2_liquidityAt at hf
  show ZZ X Γ 7 _ S 0 [(0, aR h0), (1, aI p1), (2, aI p2)] []
  refine z_lconst (v := 0) C d_X2_liquidityAt_0 (by decide) ?_
  refine z_lstore_n (lv' := [(3, aJ 0), (0, aR h0), (1, aI p1), (2, aI p2)]) C d_X2_liquidityAt_1 (by decide) rfl ?_
  refine z_iconst (v := 0) C d_X2_liquidityAt_2 (by decide) ?_
  refine z_istore (lv' := [(5, aI 0), (3, aJ 0), (0, aR h0), (1, aI p1), (2, aI p2)]) C d_X2_liquidityAt_3 (by decide) rfl ?_
  exact z_sub [2, 3, 4, 1, 0] rfl (t_X2_liquidityAt_5 C hr  100000 _ _ _ _ _ _ hf)
theorem d_X7_reaches_0 : decode cX7_reaches 0 = .ok (.aload_n 0, 1) := by decide +kernel
theorem d_X7_reaches_1 : decode cX7_reaches 1 = .ok (.getfield 23, 3) := by decide +kernel
theorem d_X7_reaches_4 : decode cX7_reaches 4 = .ok (.iload_n 1, 1) := by decide +kernel
theorem d_X7_reaches_5 : decode cX7_reaches 5 = .ok (.if_icmp .gt 15, 3) := by decide +kernel
theorem d_X7_reaches_8 : decode cX7_reaches 8 = .ok (.aload_n 0, 1) := by decide +kernel
theorem d_X7_reaches_9 : decode cX7_reaches 9 = .ok (.getfield 26, 3) := by decide +kernel
theorem d_X7_reaches_12 : decode cX7_reaches 12 = .ok (.iload_n 1, 1) := by decide +kernel
theorem d_X7_reaches_13 : decode cX7_reaches 13 = .ok (.if_icmp .le 7, 3) := by decide +kernel
theorem d_X7_reaches_16 : decode cX7_reaches 16 = .ok (.iconst 1, 1) := by decide +kernel
theorem d_X7_reaches_17 : decode cX7_reaches 17 = .ok (.goto 4, 3) := by decide +kernel
theorem d_X7_reaches_20 : decode cX7_reaches 20 = .ok (.iconst 0, 1) := by decide +kernel
theorem d_X7_reaches_21 : decode cX7_reaches 21 = .ok (.ireturn, 1) := by decide +kernel
def f_X7_reaches_21 (s0 : Int32) (S : Mem) : Option (Int32 × Mem) := (if isB s0 = true then (some (s0, S)) else none)
set_option maxRecDepth 20000 in
theorem t_X7_reaches_21 {X : MC} {Γ : GG} (C : CX X Γ cX7_reaches 2 "TickPools$Stake" 0 0) (hr : X.2.2.2.2.2.2.2.2.1.sig.returnType = some .boolean) {q : Int32 × Mem} (s0 : Int32) (S : Mem) (hf : f_X7_reaches_21 s0 S = some q) : ZZ X Γ 2 (QQ X Γ (some (aI q.1)) q.2) S 21 [] [aI s0] := by
  unfold f_X7_reaches_21 at hf
  obtain ⟨hb21_0, hf⟩ := gd hf
  exact r_i C hr (isB_nar hb21_0).1 d_X7_reaches_21 hf
def f_X7_reaches_20 (S : Mem) : Option (Int32 × Mem) := (f_X7_reaches_21  0 S)
set_option maxRecDepth 20000 in
theorem t_X7_reaches_20 {X : MC} {Γ : GG} (C : CX X Γ cX7_reaches 2 "TickPools$Stake" 0 0) (hr : X.2.2.2.2.2.2.2.2.1.sig.returnType = some .boolean) {q : Int32 × Mem} (S : Mem) (hf : f_X7_reaches_20 S = some q) : ZZ X Γ 2 (QQ X Γ (some (aI q.1)) q.2) S 20 [] [] := by
  unfold f_X7_reaches_20 at hf
  refine z_iconst (v := 0) C d_X7_reaches_20 (by decide) ?_
  exact z_sub [] rfl (t_X7_reaches_21 C hr  _ _ hf)
/-- TickPools$Stake.reaches(I)Z -/
def f_X7_reaches (h0 : Nat) (p1 : Int32) (S : Mem) : Option (Int32 × Mem) := (if kd h0 = (6, 8) then (if p1 < (gI S h0 2) then (f_X7_reaches_20  S) else (if (gI S h0 3) ≤ p1 then (f_X7_reaches_20  S) else (f_X7_reaches_21  1 S))) else none)
set_option maxRecDepth 20000 in
theorem c_X7_reaches {l : Launch} {Γ : GG} (hI : Inj Γ) {h0 : Nat} {p1 : Int32} {S : Mem} {q : Int32 × Mem} (hf : f_X7_reaches h0 p1 S = some q) : MM l Γ yX7_reaches cX7_reaches 2 (some .boolean) 0 0 [aR h0, aI p1] S (some (aI q.1)) q.2 := by
  refine met_of hI "TickPools$Stake" rfl (by decide +kernel) (Nat.le_of_ble_eq_true rfl) (fun X hX C hr => ?_)
  unfold f_X7_reaches at hf
  show ZZ X Γ 2 _ S 0 [(0, aR h0), (1, aI p1)] []
  refine z_aload_n (j := 0) C d_X7_reaches_0 rfl ?_
  obtain ⟨hg1_0, hf⟩ := gd hf
  refine zg_X7_low C hg1_0 tw_154 d_X7_reaches_1 ?_
  refine z_iload_n (j := 1) C d_X7_reaches_4 rfl ?_
  refine z_icmp_gt (tgt := 20) C d_X7_reaches_5 (by decide) hf (fun c5 hf => ?_) (fun c5 hf => ?_)
  · exact z_sub [] rfl (t_X7_reaches_20 C hr  _ hf)
  · refine z_aload_n (j := 0) C d_X7_reaches_8 rfl ?_
    refine zg_X7_high C hg1_0 tw_157 d_X7_reaches_9 ?_
    refine z_iload_n (j := 1) C d_X7_reaches_12 rfl ?_
    refine z_icmp_le (tgt := 20) C d_X7_reaches_13 (by decide) hf (fun c13 hf => ?_) (fun c13 hf => ?_)
    · exact z_sub [] rfl (t_X7_reaches_20 C hr  _ hf)
    · refine z_iconst (v := 1) C d_X7_reaches_16 (by decide) ?_
      refine z_goto (tgt := 21) C d_X7_reaches_17 (by decide) ?_
      exact z_sub [] rfl (t_X7_reaches_21 C hr  _ _ hf)
theorem d_X2_share_0 : decode cX2_share 0 = .ok (.aload_n 0, 1) := by decide +kernel
theorem d_X2_share_1 : decode cX2_share 1 = .ok (.iload_n 1, 1) := by decide +kernel
theorem d_X2_share_2 : decode cX2_share 2 = .ok (.invokevirtual 102, 3) := by decide +kernel
theorem d_X2_share_5 : decode cX2_share 5 = .ok (.astore 5, 2) := by decide +kernel
theorem d_X2_share_7 : decode cX2_share 7 = .ok (.aload 5, 2) := by decide +kernel
theorem d_X2_share_9 : decode cX2_share 9 = .ok (.ifnonnull 7, 3) := by decide +kernel
theorem d_X2_share_12 : decode cX2_share 12 = .ok (.lconst 0, 1) := by decide +kernel
theorem d_X2_share_13 : decode cX2_share 13 = .ok (.goto 13, 3) := by decide +kernel
theorem d_X2_share_16 : decode cX2_share 16 = .ok (.aload_n 0, 1) := by decide +kernel
theorem d_X2_share_17 : decode cX2_share 17 = .ok (.iload_n 1, 1) := by decide +kernel
theorem d_X2_share_18 : decode cX2_share 18 = .ok (.aload 5, 2) := by decide +kernel
theorem d_X2_share_20 : decode cX2_share 20 = .ok (.getfield 179, 3) := by decide +kernel
theorem d_X2_share_23 : decode cX2_share 23 = .ok (.invokevirtual 182, 3) := by decide +kernel
theorem d_X2_share_26 : decode cX2_share 26 = .ok (.lstore 6, 2) := by decide +kernel
theorem d_X2_share_28 : decode cX2_share 28 = .ok (.lload 6, 2) := by decide +kernel
theorem d_X2_share_30 : decode cX2_share 30 = .ok (.lconst 1, 1) := by decide +kernel
theorem d_X2_share_31 : decode cX2_share 31 = .ok (.lcmp, 1) := by decide +kernel
theorem d_X2_share_32 : decode cX2_share 32 = .ok (.ifCond .lt 10, 3) := by decide +kernel
theorem d_X2_share_35 : decode cX2_share 35 = .ok (.iload_n 2, 1) := by decide +kernel
theorem d_X2_share_36 : decode cX2_share 36 = .ok (.invokestatic 61, 3) := by decide +kernel
theorem d_X2_share_39 : decode cX2_share 39 = .ok (.ifCond .ne 4, 3) := by decide +kernel
theorem d_X2_share_42 : decode cX2_share 42 = .ok (.return_, 1) := by decide +kernel
theorem d_X2_share_43 : decode cX2_share 43 = .ok (.lload_n 3, 1) := by decide +kernel
theorem d_X2_share_44 : decode cX2_share 44 = .ok (.aload 5, 2) := by decide +kernel
theorem d_X2_share_46 : decode cX2_share 46 = .ok (.getfield 186, 3) := by decide +kernel
theorem d_X2_share_49 : decode cX2_share 49 = .ok (.i2l, 1) := by decide +kernel
theorem d_X2_share_50 : decode cX2_share 50 = .ok (.lmul, 1) := by decide +kernel
theorem d_X2_share_51 : decode cX2_share 51 = .ok (.ldc2_w 189, 3) := by decide +kernel
theorem d_X2_share_54 : decode cX2_share 54 = .ok (.ldiv, 1) := by decide +kernel
theorem d_X2_share_55 : decode cX2_share 55 = .ok (.lstore 8, 2) := by decide +kernel
theorem d_X2_share_57 : decode cX2_share 57 = .ok (.aload 5, 2) := by decide +kernel
theorem d_X2_share_59 : decode cX2_share 59 = .ok (.getfield 106, 3) := by decide +kernel
theorem d_X2_share_62 : decode cX2_share 62 = .ok (.iload_n 2, 1) := by decide +kernel
theorem d_X2_share_63 : decode cX2_share 63 = .ok (.dup2, 1) := by decide +kernel
theorem d_X2_share_64 : decode cX2_share 64 = .ok (.iaload, 1) := by decide +kernel
theorem d_X2_share_65 : decode cX2_share 65 = .ok (.lload 8, 2) := by decide +kernel
theorem d_X2_share_67 : decode cX2_share 67 = .ok (.l2i, 1) := by decide +kernel
theorem d_X2_share_68 : decode cX2_share 68 = .ok (.iadd, 1) := by decide +kernel
theorem d_X2_share_69 : decode cX2_share 69 = .ok (.iastore, 1) := by decide +kernel
theorem d_X2_share_70 : decode cX2_share 70 = .ok (.lload_n 3, 1) := by decide +kernel
theorem d_X2_share_71 : decode cX2_share 71 = .ok (.lload 8, 2) := by decide +kernel
theorem d_X2_share_73 : decode cX2_share 73 = .ok (.lsub, 1) := by decide +kernel
theorem d_X2_share_74 : decode cX2_share 74 = .ok (.ldc2_w 191, 3) := by decide +kernel
theorem d_X2_share_77 : decode cX2_share 77 = .ok (.lmul, 1) := by decide +kernel
theorem d_X2_share_78 : decode cX2_share 78 = .ok (.lload 6, 2) := by decide +kernel
theorem d_X2_share_80 : decode cX2_share 80 = .ok (.ldiv, 1) := by decide +kernel
theorem d_X2_share_81 : decode cX2_share 81 = .ok (.lstore 10, 2) := by decide +kernel
theorem d_X2_share_83 : decode cX2_share 83 = .ok (.iconst 0, 1) := by decide +kernel
theorem d_X2_share_84 : decode cX2_share 84 = .ok (.istore 12, 2) := by decide +kernel
theorem d_X2_share_86 : decode cX2_share 86 = .ok (.iload 12, 2) := by decide +kernel
theorem d_X2_share_88 : decode cX2_share 88 = .ok (.aload_n 0, 1) := by decide +kernel
theorem d_X2_share_89 : decode cX2_share 89 = .ok (.getfield 39, 3) := by decide +kernel
theorem d_X2_share_92 : decode cX2_share 92 = .ok (.if_icmp .ge 62, 3) := by decide +kernel
theorem d_X2_share_95 : decode cX2_share 95 = .ok (.iload 12, 2) := by decide +kernel
theorem d_X2_share_97 : decode cX2_share 97 = .ok (.aload_n 0, 1) := by decide +kernel
theorem d_X2_share_98 : decode cX2_share 98 = .ok (.getfield 24, 3) := by decide +kernel
theorem d_X2_share_101 : decode cX2_share 101 = .ok (.arraylength, 1) := by decide +kernel
theorem d_X2_share_102 : decode cX2_share 102 = .ok (.if_icmp .ge 52, 3) := by decide +kernel
theorem d_X2_share_105 : decode cX2_share 105 = .ok (.aload_n 0, 1) := by decide +kernel
theorem d_X2_share_106 : decode cX2_share 106 = .ok (.getfield 24, 3) := by decide +kernel
theorem d_X2_share_109 : decode cX2_share 109 = .ok (.iload 12, 2) := by decide +kernel
theorem d_X2_share_111 : decode cX2_share 111 = .ok (.aaload, 1) := by decide +kernel
theorem d_X2_share_112 : decode cX2_share 112 = .ok (.astore 13, 2) := by decide +kernel
theorem d_X2_share_114 : decode cX2_share 114 = .ok (.aload 13, 2) := by decide +kernel
theorem d_X2_share_116 : decode cX2_share 116 = .ok (.getfield 86, 3) := by decide +kernel
theorem d_X2_share_119 : decode cX2_share 119 = .ok (.iload_n 1, 1) := by decide +kernel
theorem d_X2_share_120 : decode cX2_share 120 = .ok (.if_icmp .ne 28, 3) := by decide +kernel
theorem d_X2_share_123 : decode cX2_share 123 = .ok (.aload 13, 2) := by decide +kernel
theorem d_X2_share_125 : decode cX2_share 125 = .ok (.aload 5, 2) := by decide +kernel
theorem d_X2_share_127 : decode cX2_share 127 = .ok (.getfield 179, 3) := by decide +kernel
theorem d_X2_share_130 : decode cX2_share 130 = .ok (.invokevirtual 193, 3) := by decide +kernel
theorem d_X2_share_133 : decode cX2_share 133 = .ok (.ifCond .eq 15, 3) := by decide +kernel
theorem d_X2_share_136 : decode cX2_share 136 = .ok (.aload 13, 2) := by decide +kernel
theorem d_X2_share_138 : decode cX2_share 138 = .ok (.getfield 196, 3) := by decide +kernel
theorem d_X2_share_141 : decode cX2_share 141 = .ok (.iload_n 2, 1) := by decide +kernel
theorem d_X2_share_142 : decode cX2_share 142 = .ok (.dup2, 1) := by decide +kernel
theorem d_X2_share_143 : decode cX2_share 143 = .ok (.laload, 1) := by decide +kernel
theorem d_X2_share_144 : decode cX2_share 144 = .ok (.lload 10, 2) := by decide +kernel
theorem d_X2_share_146 : decode cX2_share 146 = .ok (.ladd, 1) := by decide +kernel
theorem d_X2_share_147 : decode cX2_share 147 = .ok (.lastore, 1) := by decide +kernel
theorem d_X2_share_148 : decode cX2_share 148 = .ok (.iinc 12 1, 3) := by decide +kernel
theorem d_X2_share_151 : decode cX2_share 151 = .ok (.goto (-65), 3) := by decide +kernel
theorem d_X2_share_154 : decode cX2_share 154 = .ok (.return_, 1) := by decide +kernel
def f_X2_share_42 (S : Mem) : Option (Unit × Mem) := (some ((), S))
set_option maxRecDepth 20000 in
theorem t_X2_share_42 {X : MC} {Γ : GG} (C : CX X Γ cX2_share 14 "TickPools$Market" 1 26) (hr : X.2.2.2.2.2.2.2.2.1.sig.returnType = none) {q : Unit × Mem} (S : Mem) (hf : f_X2_share_42 S = some q) : ZZ X Γ 14 (QQ X Γ none q.2) S 42 [] [] := by
  unfold f_X2_share_42 at hf
  exact r_v C hr d_X2_share_42 hf
def f_X2_share_148 (k86 : Nat → Int32 → Int32 → Nat → Int64 → Int32 → Mem → Option (Unit × Mem)) (v0 : Nat) (v1 : Int32) (v2 : Int32) (v5 : Nat) (v10 : Int64) (v12 : Int32) (S : Mem) : Option (Unit × Mem) := (k86 v0 v1 v2 v5 v10 (v12 + 1) S)
set_option maxRecDepth 20000 in
theorem t_X2_share_148 {X : MC} {Γ : GG} (C : CX X Γ cX2_share 14 "TickPools$Market" 1 26) (hr : X.2.2.2.2.2.2.2.2.1.sig.returnType = none) {k86 : Nat → Int32 → Int32 → Nat → Int64 → Int32 → Mem → Option (Unit × Mem)} {q : Unit × Mem} (hk86 : ∀ (v0 : Nat) (v1 : Int32) (v2 : Int32) (v5 : Nat) (v10 : Int64) (v12 : Int32) (S : Mem), k86 v0 v1 v2 v5 v10 v12 S = some q → ZZ X Γ 14 (QQ X Γ none q.2) S 86 [(0, aR v0), (1, aI v1), (2, aI v2), (5, aR v5), (10, aJ v10), (12, aI v12)] []) (v0 : Nat) (v1 : Int32) (v2 : Int32) (v5 : Nat) (v10 : Int64) (v12 : Int32) (S : Mem) (hf : f_X2_share_148 k86 v0 v1 v2 v5 v10 v12 S = some q) : ZZ X Γ 14 (QQ X Γ none q.2) S 148 [(0, aR v0), (1, aI v1), (2, aI v2), (5, aR v5), (10, aJ v10), (12, aI v12)] [] := by
  unfold f_X2_share_148 at hf
  refine z_iinc (j := 5) (v := (v12 + 1)) (lv' := [(12, aI (v12 + 1)), (0, aR v0), (1, aI v1), (2, aI v2), (5, aR v5), (10, aJ v10)]) C d_X2_share_148 rfl rfl (by decide) rfl ?_
  refine z_goto (tgt := 86) C d_X2_share_151 (by decide) ?_
  exact z_sub [1, 2, 3, 4, 5, 0] rfl (hk86 _ _ _ _ _ _ _ hf)
def f_X2_share_114 (k86 : Nat → Int32 → Int32 → Nat → Int64 → Int32 → Mem → Option (Unit × Mem)) (v0 : Nat) (v1 : Int32) (v2 : Int32) (v5 : Nat) (v10 : Int64) (v12 : Int32) (v13 : Nat) (S : Mem) : Option (Unit × Mem) := (if kd v13 = (6, 8) then (if (gI S v13 1) = v1 then (if kd v5 = (3, 12) then ((f_X7_reaches v13 (gI S v5 6) S).bind fun q130 => (if q130.1 = 0 then (f_X2_share_148 k86 v0 v1 v2 v5 v10 v12 q130.2) else (if inb v2 2 = true then (if inb v2 2 = true then (f_X2_share_148 k86 v0 v1 v2 v5 v10 v12 (sL q130.2 (v13 + 1) ((v2 : Int32).toNatClampNeg) ((gL q130.2 (v13 + 1) ((v2 : Int32).toNatClampNeg)) + v10))) else none) else none))) else none) else (f_X2_share_148 k86 v0 v1 v2 v5 v10 v12 S)) else none)
set_option maxRecDepth 20000 in
theorem t_X2_share_114 {X : MC} {Γ : GG} (C : CX X Γ cX2_share 14 "TickPools$Market" 1 26) (hr : X.2.2.2.2.2.2.2.2.1.sig.returnType = none) {k86 : Nat → Int32 → Int32 → Nat → Int64 → Int32 → Mem → Option (Unit × Mem)} {q : Unit × Mem} (hk86 : ∀ (v0 : Nat) (v1 : Int32) (v2 : Int32) (v5 : Nat) (v10 : Int64) (v12 : Int32) (S : Mem), k86 v0 v1 v2 v5 v10 v12 S = some q → ZZ X Γ 14 (QQ X Γ none q.2) S 86 [(0, aR v0), (1, aI v1), (2, aI v2), (5, aR v5), (10, aJ v10), (12, aI v12)] []) (v0 : Nat) (v1 : Int32) (v2 : Int32) (v5 : Nat) (v10 : Int64) (v12 : Int32) (v13 : Nat) (S : Mem) (hf : f_X2_share_114 k86 v0 v1 v2 v5 v10 v12 v13 S = some q) : ZZ X Γ 14 (QQ X Γ none q.2) S 114 [(0, aR v0), (1, aI v1), (2, aI v2), (5, aR v5), (10, aJ v10), (12, aI v12), (13, aR v13)] [] := by
  unfold f_X2_share_114 at hf
  refine z_aload (j := 6) C d_X2_share_114 rfl ?_
  obtain ⟨hg116_0, hf⟩ := gd hf
  refine zg_X7_pool C hg116_0 tw_153 d_X2_share_116 ?_
  refine z_iload_n (j := 1) C d_X2_share_119 rfl ?_
  refine z_icmp_ne (tgt := 148) C d_X2_share_120 (by decide) hf (fun c120 hf => ?_) (fun c120 hf => ?_)
  · exact z_sub [0, 1, 2, 3, 4, 5] rfl (t_X2_share_148 C hr hk86 _ _ _ _ _ _ _ hf)
  · refine z_aload (j := 6) C d_X2_share_123 rfl ?_
    refine z_aload (j := 3) C d_X2_share_125 rfl ?_
    obtain ⟨hg127_1, hf⟩ := gd hf
    refine zg_X4_zone C hg127_1 tw_104 d_X2_share_127 ?_
    obtain ⟨q130, hF, hf⟩ := bd hf
    refine z_callV1 (rest := []) C [aI (gI S v5 6)] hg116_0 (by decide) rfl rfl k_X7_reaches tw_817 ⟨by decide, by decide⟩ (Nat.le_of_ble_eq_true rfl) d_X2_share_130 (c_X7_reaches C.inj hF) rfl ?_
    refine z_if_eq (tgt := 148) C d_X2_share_133 (by decide) hf (fun c133 hf => ?_) (fun c133 hf => ?_)
    · exact z_sub [0, 1, 2, 3, 4, 5] rfl (t_X2_share_148 C hr hk86 _ _ _ _ _ _ _ hf)
    · refine z_aload (j := 6) C d_X2_share_136 rfl ?_
      refine zg_X7_gain C hg116_0 tw_168 d_X2_share_138 ?_
      refine z_iload_n (j := 2) C d_X2_share_141 rfl ?_
      refine z_dup2_11 C d_X2_share_142 rfl rfl ?_
      obtain ⟨hi143_0, hf⟩ := gd hf
      refine z_lald C (kdS1 hg116_0) hi143_0 d_X2_share_143 ?_
      refine z_lload (j := 4) C d_X2_share_144 rfl ?_
      refine z_ladd C d_X2_share_146 ?_
      obtain ⟨hi147_1, hf⟩ := gd hf
      refine z_last C (kdS1 hg116_0) hi147_1 d_X2_share_147 ?_
      exact z_sub [0, 1, 2, 3, 4, 5] rfl (t_X2_share_148 C hr hk86 _ _ _ _ _ _ _ hf)
def f_X2_share_154 (S : Mem) : Option (Unit × Mem) := (some ((), S))
set_option maxRecDepth 20000 in
theorem t_X2_share_154 {X : MC} {Γ : GG} (C : CX X Γ cX2_share 14 "TickPools$Market" 1 26) (hr : X.2.2.2.2.2.2.2.2.1.sig.returnType = none) {q : Unit × Mem} (S : Mem) (hf : f_X2_share_154 S = some q) : ZZ X Γ 14 (QQ X Γ none q.2) S 154 [] [] := by
  unfold f_X2_share_154 at hf
  exact r_v C hr d_X2_share_154 hf
def f_X2_share_86B (k86 : Nat → Int32 → Int32 → Nat → Int64 → Int32 → Mem → Option (Unit × Mem)) (v0 : Nat) (v1 : Int32) (v2 : Int32) (v5 : Nat) (v10 : Int64) (v12 : Int32) (S : Mem) : Option (Unit × Mem) := (if kd v0 = (1, 9) then (if (gI S v0 3) ≤ v12 then (f_X2_share_154  S) else (if 12 ≤ v12 then (f_X2_share_154  S) else (if inb v12 12 = true then (f_X2_share_114 k86 v0 v1 v2 v5 v10 v12 (gR S (v0 + 3) ((v12 : Int32).toNatClampNeg)) S) else none))) else none)
set_option maxRecDepth 20000 in
theorem t_X2_share_86B {X : MC} {Γ : GG} (C : CX X Γ cX2_share 14 "TickPools$Market" 1 26) (hr : X.2.2.2.2.2.2.2.2.1.sig.returnType = none) {k86 : Nat → Int32 → Int32 → Nat → Int64 → Int32 → Mem → Option (Unit × Mem)} {q : Unit × Mem} (hk86 : ∀ (v0 : Nat) (v1 : Int32) (v2 : Int32) (v5 : Nat) (v10 : Int64) (v12 : Int32) (S : Mem), k86 v0 v1 v2 v5 v10 v12 S = some q → ZZ X Γ 14 (QQ X Γ none q.2) S 86 [(0, aR v0), (1, aI v1), (2, aI v2), (5, aR v5), (10, aJ v10), (12, aI v12)] []) (v0 : Nat) (v1 : Int32) (v2 : Int32) (v5 : Nat) (v10 : Int64) (v12 : Int32) (S : Mem) (hf : f_X2_share_86B k86 v0 v1 v2 v5 v10 v12 S = some q) : ZZ X Γ 14 (QQ X Γ none q.2) S 86 [(0, aR v0), (1, aI v1), (2, aI v2), (5, aR v5), (10, aJ v10), (12, aI v12)] [] := by
  unfold f_X2_share_86B at hf
  refine z_iload (j := 5) C d_X2_share_86 rfl ?_
  refine z_aload_n (j := 0) C d_X2_share_88 rfl ?_
  obtain ⟨hg89_0, hf⟩ := gd hf
  refine zg_X2_stakes C hg89_0 tw_200 d_X2_share_89 ?_
  refine z_icmp_ge (tgt := 154) C d_X2_share_92 (by decide) hf (fun c92 hf => ?_) (fun c92 hf => ?_)
  · exact z_sub [] rfl (t_X2_share_154 C hr  _ hf)
  · refine z_iload (j := 5) C d_X2_share_95 rfl ?_
    refine z_aload_n (j := 0) C d_X2_share_97 rfl ?_
    refine zg_X2_stakeRow C hg89_0 tw_210 d_X2_share_98 ?_
    refine z_alen (v := 12) C (kdM3 hg89_0) (by decide) (by decide) d_X2_share_101 ?_
    refine z_icmp_ge (tgt := 154) C d_X2_share_102 (by decide) hf (fun c102 hf => ?_) (fun c102 hf => ?_)
    · exact z_sub [] rfl (t_X2_share_154 C hr  _ hf)
    · refine z_aload_n (j := 0) C d_X2_share_105 rfl ?_
      refine zg_X2_stakeRow C hg89_0 tw_210 d_X2_share_106 ?_
      refine z_iload (j := 5) C d_X2_share_109 rfl ?_
      obtain ⟨hi111_0, hf⟩ := gd hf
      refine z_aldS C (kdM3 hg89_0) hi111_0 d_X2_share_111 ?_
      refine z_astore (lv' := [(13, aR (gR S (v0 + 3) ((v12 : Int32).toNatClampNeg))), (0, aR v0), (1, aI v1), (2, aI v2), (5, aR v5), (10, aJ v10), (12, aI v12)]) C d_X2_share_112 (by decide) rfl ?_
      exact z_sub [1, 2, 3, 4, 5, 6, 0] rfl (t_X2_share_114 C hr hk86 _ _ _ _ _ _ _ _ hf)
def f_X2_share_86 : Nat → Nat → Int32 → Int32 → Nat → Int64 → Int32 → Mem → Option (Unit × Mem)
  | 0 => fun _ _ _ _ _ _ _ => none
  | n + 1 => f_X2_share_86B (f_X2_share_86 n)
theorem t_X2_share_86 {X : MC} {Γ : GG} (C : CX X Γ cX2_share 14 "TickPools$Market" 1 26) (hr : X.2.2.2.2.2.2.2.2.1.sig.returnType = none) {q : Unit × Mem} : ∀ (n : Nat) (v0 : Nat) (v1 : Int32) (v2 : Int32) (v5 : Nat) (v10 : Int64) (v12 : Int32) (S : Mem) (hf : f_X2_share_86 n v0 v1 v2 v5 v10 v12 S = some q), ZZ X Γ 14 (QQ X Γ none q.2) S 86 [(0, aR v0), (1, aI v1), (2, aI v2), (5, aR v5), (10, aJ v10), (12, aI v12)] []
  | 0, _, _, _, _, _, _, _, hf => nomatch (show (none : Option (Unit × Mem)) = some q from hf)
  | n + 1, v0, v1, v2, v5, v10, v12, S, hf => t_X2_share_86B C hr (t_X2_share_86 C hr n) v0 v1 v2 v5 v10 v12 S hf
def f_X2_share_83 (v0 : Nat) (v1 : Int32) (v2 : Int32) (v5 : Nat) (v10 : Int64) (S : Mem) : Option (Unit × Mem) := (f_X2_share_86  100000 v0 v1 v2 v5 v10 0 S)
set_option maxRecDepth 20000 in
theorem t_X2_share_83 {X : MC} {Γ : GG} (C : CX X Γ cX2_share 14 "TickPools$Market" 1 26) (hr : X.2.2.2.2.2.2.2.2.1.sig.returnType = none) {q : Unit × Mem} (v0 : Nat) (v1 : Int32) (v2 : Int32) (v5 : Nat) (v10 : Int64) (S : Mem) (hf : f_X2_share_83 v0 v1 v2 v5 v10 S = some q) : ZZ X Γ 14 (QQ X Γ none q.2) S 83 [(0, aR v0), (1, aI v1), (2, aI v2), (5, aR v5), (10, aJ v10)] [] := by
  unfold f_X2_share_83 at hf
  refine z_iconst (v := 0) C d_X2_share_83 (by decide) ?_
  refine z_istore (lv' := [(12, aI 0), (0, aR v0), (1, aI v1), (2, aI v2), (5, aR v5), (10, aJ v10)]) C d_X2_share_84 (by decide) rfl ?_
  exact z_sub [1, 2, 3, 4, 5, 0] rfl (t_X2_share_86 C hr  100000 _ _ _ _ _ _ _ hf)
def f_X2_share_57 (v0 : Nat) (v1 : Int32) (v2 : Int32) (v3 : Int64) (v5 : Nat) (v6 : Int64) (v8 : Int64) (S : Mem) : Option (Unit × Mem) := (if kd v5 = (3, 12) then (if inb v2 2 = true then (if inb v2 2 = true then (if v6 = 0 then none else (f_X2_share_83  v0 v1 v2 v5 (((v3 - v8) * 1048576) / v6) (sI S (v5 + 2) ((v2 : Int32).toNatClampNeg) ((gI S (v5 + 2) ((v2 : Int32).toNatClampNeg)) + ((v8 : Int64).toInt32))))) else none) else none) else none)
set_option maxRecDepth 20000 in
theorem t_X2_share_57 {X : MC} {Γ : GG} (C : CX X Γ cX2_share 14 "TickPools$Market" 1 26) (hr : X.2.2.2.2.2.2.2.2.1.sig.returnType = none) {q : Unit × Mem} (v0 : Nat) (v1 : Int32) (v2 : Int32) (v3 : Int64) (v5 : Nat) (v6 : Int64) (v8 : Int64) (S : Mem) (hf : f_X2_share_57 v0 v1 v2 v3 v5 v6 v8 S = some q) : ZZ X Γ 14 (QQ X Γ none q.2) S 57 [(0, aR v0), (1, aI v1), (2, aI v2), (3, aJ v3), (5, aR v5), (6, aJ v6), (8, aJ v8)] [] := by
  unfold f_X2_share_57 at hf
  refine z_aload (j := 4) C d_X2_share_57 rfl ?_
  obtain ⟨hg59_0, hf⟩ := gd hf
  refine zg_X4_house C hg59_0 tw_112 d_X2_share_59 ?_
  refine z_iload_n (j := 2) C d_X2_share_62 rfl ?_
  refine z_dup2_11 C d_X2_share_63 rfl rfl ?_
  obtain ⟨hi64_1, hf⟩ := gd hf
  refine z_iald C (kdP2 hg59_0) hi64_1 d_X2_share_64 ?_
  refine z_lload (j := 6) C d_X2_share_65 rfl ?_
  refine z_l2i C d_X2_share_67 ?_
  refine z_iadd C d_X2_share_68 ?_
  obtain ⟨hi69_2, hf⟩ := gd hf
  refine z_iast C (kdP2 hg59_0) hi69_2 d_X2_share_69 ?_
  refine z_lload_n (j := 3) C d_X2_share_70 rfl ?_
  refine z_lload (j := 6) C d_X2_share_71 rfl ?_
  refine z_lsub C d_X2_share_73 ?_
  refine z_ldc2 (v := 1048576) C tw_816 d_X2_share_74 ?_
  refine z_lmul C d_X2_share_77 ?_
  refine z_lload (j := 5) C d_X2_share_78 rfl ?_
  obtain ⟨hz80, hf⟩ := gdn hf
  refine z_ldiv C d_X2_share_80 hz80 ?_
  refine z_lstore (lv' := [(10, aJ (((v3 - v8) * 1048576) / v6)), (0, aR v0), (1, aI v1), (2, aI v2), (3, aJ v3), (5, aR v5), (6, aJ v6), (8, aJ v8)]) C d_X2_share_81 (by decide) rfl ?_
  exact z_sub [1, 2, 3, 5, 0] rfl (t_X2_share_83 C hr  _ _ _ _ _ _ hf)
def f_X2_share_26 (v0 : Nat) (v1 : Int32) (v2 : Int32) (v3 : Int64) (v5 : Nat) (s0 : Int64) (S : Mem) : Option (Unit × Mem) := (if s0 < 1 then (f_X2_share_42  S) else ((f_X11_isSide v2 S).bind fun q36 => (if q36.1 = 0 then (f_X2_share_42  q36.2) else (if kd v5 = (3, 12) then (f_X2_share_57  v0 v1 v2 v3 v5 s0 ((v3 * (((gI q36.2 v5 3) : Int32).toInt64)) / 100) q36.2) else none))))
set_option maxRecDepth 20000 in
theorem t_X2_share_26 {X : MC} {Γ : GG} (C : CX X Γ cX2_share 14 "TickPools$Market" 1 26) (hr : X.2.2.2.2.2.2.2.2.1.sig.returnType = none) {q : Unit × Mem} (v0 : Nat) (v1 : Int32) (v2 : Int32) (v3 : Int64) (v5 : Nat) (s0 : Int64) (S : Mem) (hf : f_X2_share_26 v0 v1 v2 v3 v5 s0 S = some q) : ZZ X Γ 14 (QQ X Γ none q.2) S 26 [(0, aR v0), (1, aI v1), (2, aI v2), (3, aJ v3), (5, aR v5)] [aJ s0] := by
  unfold f_X2_share_26 at hf
  refine z_lstore (lv' := [(6, aJ s0), (0, aR v0), (1, aI v1), (2, aI v2), (3, aJ v3), (5, aR v5)]) C d_X2_share_26 (by decide) rfl ?_
  refine z_lload (j := 0) C d_X2_share_28 rfl ?_
  refine z_lconst (v := 1) C d_X2_share_30 (by decide) ?_
  refine z_llt (tgt := 42) C d_X2_share_31 d_X2_share_32 (by decide) hf (fun c31 hf => ?_) (fun c31 hf => ?_)
  · exact z_sub [] rfl (t_X2_share_42 C hr  _ hf)
  · refine z_iload_n (j := 3) C d_X2_share_35 rfl ?_
    obtain ⟨q36, hF, hf⟩ := bd hf
    refine z_callSN1 (rest := []) C [aI v2] k_X11_isSide (nw_2) ⟨by decide, by decide⟩ (Nat.le_of_ble_eq_true rfl) d_X2_share_36 (c_X11_isSide C.inj hF) rfl ?_
    refine z_if_ne (tgt := 43) C d_X2_share_39 (by decide) hf (fun c39 hf => ?_) (fun c39 hf => ?_)
    · refine z_lload_n (j := 4) C d_X2_share_43 rfl ?_
      refine z_aload (j := 5) C d_X2_share_44 rfl ?_
      obtain ⟨hg46_0, hf⟩ := gd hf
      refine zg_X4_cut C hg46_0 tw_90 d_X2_share_46 ?_
      refine z_i2l C d_X2_share_49 ?_
      refine z_lmul C d_X2_share_50 ?_
      refine z_ldc2 (v := 100) C tw_815 d_X2_share_51 ?_
      refine z_ldiv C d_X2_share_54 (by decide) ?_
      refine z_lstore (lv' := [(8, aJ ((v3 * (((gI q36.2 v5 3) : Int32).toInt64)) / 100)), (6, aJ s0), (0, aR v0), (1, aI v1), (2, aI v2), (3, aJ v3), (5, aR v5)]) C d_X2_share_55 (by decide) rfl ?_
      exact z_sub [2, 3, 4, 5, 6, 1, 0] rfl (t_X2_share_57 C hr  _ _ _ _ _ _ _ _ hf)
    · exact z_sub [] rfl (t_X2_share_42 C hr  _ hf)
/-- TickPools$Market.share(IIJ)V -/
def f_X2_share (h0 : Nat) (p1 : Int32) (p2 : Int32) (p3 : Int64) (S : Mem) : Option (Unit × Mem) := (if kd h0 = (1, 9) then ((f_X2_poolAt h0 p1 S).bind fun q2 => (if q2.1 = 0 then (f_X2_share_26  h0 p1 p2 p3 q2.1 0 q2.2) else (if kd q2.1 = (3, 12) then ((f_X2_liquidityAt h0 p1 (gI q2.2 q2.1 6) q2.2).bind fun q23 => (f_X2_share_26  h0 p1 p2 p3 q2.1 q23.1 q23.2)) else none))) else none)
set_option maxRecDepth 20000 in
theorem c_X2_share {l : Launch} {Γ : GG} (hI : Inj Γ) {h0 : Nat} {p1 : Int32} {p2 : Int32} {p3 : Int64} {S : Mem} {q : Unit × Mem} (hf : f_X2_share h0 p1 p2 p3 S = some q) : MM l Γ yX2_share cX2_share 14 (none) 1 26 [aR h0, aI p1, aI p2, aJ p3] S none q.2 := by
  refine met_of hI "TickPools$Market" rfl (by decide +kernel) (Nat.le_of_ble_eq_true rfl) (fun X hX C hr => ?_)
  unfold f_X2_share at hf
  show ZZ X Γ 14 _ S 0 [(0, aR h0), (1, aI p1), (2, aI p2), (3, aJ p3)] []
  refine z_aload_n (j := 0) C d_X2_share_0 rfl ?_
  refine z_iload_n (j := 1) C d_X2_share_1 rfl ?_
  obtain ⟨hg2_0, hf⟩ := gd hf
  obtain ⟨q2, hF, hf⟩ := bd hf
  refine z_callV1 (rest := []) C [aI p1] hg2_0 (by decide) rfl rfl k_X2_poolAt tw_810 ⟨by decide, by decide⟩ (Nat.le_of_ble_eq_true rfl) d_X2_share_2 (c_X2_poolAt C.inj hF) rfl ?_
  refine z_astore (lv' := [(5, aR q2.1), (0, aR h0), (1, aI p1), (2, aI p2), (3, aJ p3)]) C d_X2_share_5 (by decide) rfl ?_
  refine z_aload (j := 0) C d_X2_share_7 rfl ?_
  refine z_ifnonnull (tgt := 16) C d_X2_share_9 (by decide) hf (fun c9 hf => ?_) (fun c9 hf => ?_)
  · refine z_aload_n (j := 1) C d_X2_share_16 rfl ?_
    refine z_iload_n (j := 2) C d_X2_share_17 rfl ?_
    refine z_aload (j := 0) C d_X2_share_18 rfl ?_
    obtain ⟨hg20_1, hf⟩ := gd hf
    refine zg_X4_zone C hg20_1 tw_104 d_X2_share_20 ?_
    obtain ⟨q23, hF, hf⟩ := bd hf
    refine z_callV1 (rest := []) C [aI p1, aI (gI q2.2 q2.1 6)] hg2_0 (by decide) rfl rfl k_X2_liquidityAt tw_811 ⟨by decide, by decide⟩ (Nat.le_of_ble_eq_true rfl) d_X2_share_23 (c_X2_liquidityAt C.inj hF) rfl ?_
    exact z_sub [1, 2, 3, 4, 0] rfl (t_X2_share_26 C hr  _ _ _ _ _ _ _ hf)
  · refine z_lconst (v := 0) C d_X2_share_12 (by decide) ?_
    refine z_goto (tgt := 26) C d_X2_share_13 (by decide) ?_
    exact z_sub [1, 2, 3, 4, 0] rfl (t_X2_share_26 C hr  _ _ _ _ _ _ _ hf)
theorem d_X10_takeIn_0 : decode cX10_takeIn 0 = .ok (.aload_n 0, 1) := by decide +kernel
theorem d_X10_takeIn_1 : decode cX10_takeIn 1 = .ok (.dup, 1) := by decide +kernel
theorem d_X10_takeIn_2 : decode cX10_takeIn 2 = .ok (.getfield 77, 3) := by decide +kernel
theorem d_X10_takeIn_5 : decode cX10_takeIn 5 = .ok (.lload_n 1, 1) := by decide +kernel
theorem d_X10_takeIn_6 : decode cX10_takeIn 6 = .ok (.lload_n 3, 1) := by decide +kernel
theorem d_X10_takeIn_7 : decode cX10_takeIn 7 = .ok (.ladd, 1) := by decide +kernel
theorem d_X10_takeIn_8 : decode cX10_takeIn 8 = .ok (.ladd, 1) := by decide +kernel
theorem d_X10_takeIn_9 : decode cX10_takeIn 9 = .ok (.putfield 77, 3) := by decide +kernel
theorem d_X10_takeIn_12 : decode cX10_takeIn 12 = .ok (.aload_n 0, 1) := by decide +kernel
theorem d_X10_takeIn_13 : decode cX10_takeIn 13 = .ok (.dup, 1) := by decide +kernel
theorem d_X10_takeIn_14 : decode cX10_takeIn 14 = .ok (.getfield 80, 3) := by decide +kernel
theorem d_X10_takeIn_17 : decode cX10_takeIn 17 = .ok (.lload_n 3, 1) := by decide +kernel
theorem d_X10_takeIn_18 : decode cX10_takeIn 18 = .ok (.ladd, 1) := by decide +kernel
theorem d_X10_takeIn_19 : decode cX10_takeIn 19 = .ok (.putfield 80, 3) := by decide +kernel
theorem d_X10_takeIn_22 : decode cX10_takeIn 22 = .ok (.aload_n 0, 1) := by decide +kernel
theorem d_X10_takeIn_23 : decode cX10_takeIn 23 = .ok (.getfield 34, 3) := by decide +kernel
theorem d_X10_takeIn_26 : decode cX10_takeIn 26 = .ok (.ifCond .eq 25, 3) := by decide +kernel
theorem d_X10_takeIn_29 : decode cX10_takeIn 29 = .ok (.lload_n 3, 1) := by decide +kernel
theorem d_X10_takeIn_30 : decode cX10_takeIn 30 = .ok (.lconst 0, 1) := by decide +kernel
theorem d_X10_takeIn_31 : decode cX10_takeIn 31 = .ok (.lcmp, 1) := by decide +kernel
theorem d_X10_takeIn_32 : decode cX10_takeIn 32 = .ok (.ifCond .le 19, 3) := by decide +kernel
theorem d_X10_takeIn_35 : decode cX10_takeIn 35 = .ok (.aload_n 0, 1) := by decide +kernel
theorem d_X10_takeIn_36 : decode cX10_takeIn 36 = .ok (.getfield 40, 3) := by decide +kernel
theorem d_X10_takeIn_39 : decode cX10_takeIn 39 = .ok (.aload_n 0, 1) := by decide +kernel
theorem d_X10_takeIn_40 : decode cX10_takeIn 40 = .ok (.getfield 44, 3) := by decide +kernel
theorem d_X10_takeIn_43 : decode cX10_takeIn 43 = .ok (.aload_n 0, 1) := by decide +kernel
theorem d_X10_takeIn_44 : decode cX10_takeIn 44 = .ok (.getfield 15, 3) := by decide +kernel
theorem d_X10_takeIn_47 : decode cX10_takeIn 47 = .ok (.lload_n 3, 1) := by decide +kernel
theorem d_X10_takeIn_48 : decode cX10_takeIn 48 = .ok (.invokevirtual 144, 3) := by decide +kernel
theorem d_X10_takeIn_51 : decode cX10_takeIn 51 = .ok (.return_, 1) := by decide +kernel
def f_X10_takeIn_51 (S : Mem) : Option (Unit × Mem) := (some ((), S))
set_option maxRecDepth 20000 in
theorem t_X10_takeIn_51 {X : MC} {Γ : GG} (C : CX X Γ cX10_takeIn 5 "TickPools$Trade" 2 59) (hr : X.2.2.2.2.2.2.2.2.1.sig.returnType = none) {q : Unit × Mem} (S : Mem) (hf : f_X10_takeIn_51 S = some q) : ZZ X Γ 5 (QQ X Γ none q.2) S 51 [] [] := by
  unfold f_X10_takeIn_51 at hf
  exact r_v C hr d_X10_takeIn_51 hf
/-- TickPools$Trade.takeIn(JJ)V -/
def f_X10_takeIn (p1 : Int64) (p3 : Int64) (S : Mem) : Option (Unit × Mem) := (if (gI (sL (sL S 4 12 ((gL S 4 12) + (p1 + p3))) 4 13 ((gL (sL S 4 12 ((gL S 4 12) + (p1 + p3))) 4 13) + p3)) 4 4) = 0 then (f_X10_takeIn_51  (sL (sL S 4 12 ((gL S 4 12) + (p1 + p3))) 4 13 ((gL (sL S 4 12 ((gL S 4 12) + (p1 + p3))) 4 13) + p3))) else (if p3 ≤ 0 then (f_X10_takeIn_51  (sL (sL S 4 12 ((gL S 4 12) + (p1 + p3))) 4 13 ((gL (sL S 4 12 ((gL S 4 12) + (p1 + p3))) 4 13) + p3))) else (if kd (gR (sL (sL S 4 12 ((gL S 4 12) + (p1 + p3))) 4 13 ((gL (sL S 4 12 ((gL S 4 12) + (p1 + p3))) 4 13) + p3)) 4 0) = (1, 9) then ((f_X2_share (gR (sL (sL S 4 12 ((gL S 4 12) + (p1 + p3))) 4 13 ((gL (sL S 4 12 ((gL S 4 12) + (p1 + p3))) 4 13) + p3)) 4 0) (gI (sL (sL S 4 12 ((gL S 4 12) + (p1 + p3))) 4 13 ((gL (sL S 4 12 ((gL S 4 12) + (p1 + p3))) 4 13) + p3)) 4 2) (gI (sL (sL S 4 12 ((gL S 4 12) + (p1 + p3))) 4 13 ((gL (sL S 4 12 ((gL S 4 12) + (p1 + p3))) 4 13) + p3)) 4 3) p3 (sL (sL S 4 12 ((gL S 4 12) + (p1 + p3))) 4 13 ((gL (sL S 4 12 ((gL S 4 12) + (p1 + p3))) 4 13) + p3))).bind fun q48 => (f_X10_takeIn_51  q48.2)) else none)))
set_option maxRecDepth 20000 in
theorem c_X10_takeIn {l : Launch} {Γ : GG} (hI : Inj Γ) {p1 : Int64} {p3 : Int64} {S : Mem} {q : Unit × Mem} (hf : f_X10_takeIn p1 p3 S = some q) : MM l Γ yX10_takeIn cX10_takeIn 5 (none) 2 59 [aR 4, aJ p1, aJ p3] S none q.2 := by
  refine met_of hI "TickPools$Trade" rfl (by decide +kernel) (Nat.le_of_ble_eq_true rfl) (fun X hX C hr => ?_)
  unfold f_X10_takeIn at hf
  show ZZ X Γ 5 _ S 0 [(0, aR 4), (1, aJ p1), (3, aJ p3)] []
  refine z_aload_n (j := 0) C d_X10_takeIn_0 rfl ?_
  refine z_dup C d_X10_takeIn_1 rfl ?_
  refine zg_X10_paid C rfl tw_255 d_X10_takeIn_2 ?_
  refine z_lload_n (j := 1) C d_X10_takeIn_5 rfl ?_
  refine z_lload_n (j := 2) C d_X10_takeIn_6 rfl ?_
  refine z_ladd C d_X10_takeIn_7 ?_
  refine z_ladd C d_X10_takeIn_8 ?_
  refine zp_X10_paid C rfl tw_255 d_X10_takeIn_9 ?_
  refine z_aload_n (j := 0) C d_X10_takeIn_12 rfl ?_
  refine z_dup C d_X10_takeIn_13 rfl ?_
  refine zg_X10_fees C rfl tw_258 d_X10_takeIn_14 ?_
  refine z_lload_n (j := 2) C d_X10_takeIn_17 rfl ?_
  refine z_ladd C d_X10_takeIn_18 ?_
  refine zp_X10_fees C rfl tw_258 d_X10_takeIn_19 ?_
  refine z_aload_n (j := 0) C d_X10_takeIn_22 rfl ?_
  refine zg_X10_real C rfl tw_240 d_X10_takeIn_23 ?_
  refine z_if_eq (tgt := 51) C d_X10_takeIn_26 (by decide) hf (fun c26 hf => ?_) (fun c26 hf => ?_)
  · exact z_sub [] rfl (t_X10_takeIn_51 C hr  _ hf)
  · refine z_lload_n (j := 2) C d_X10_takeIn_29 rfl ?_
    refine z_lconst (v := 0) C d_X10_takeIn_30 (by decide) ?_
    refine z_lle (tgt := 51) C d_X10_takeIn_31 d_X10_takeIn_32 (by decide) hf (fun c31 hf => ?_) (fun c31 hf => ?_)
    · exact z_sub [] rfl (t_X10_takeIn_51 C hr  _ hf)
    · refine z_aload_n (j := 0) C d_X10_takeIn_35 rfl ?_
      refine zg_X10_market C rfl tw_236 d_X10_takeIn_36 ?_
      refine z_aload_n (j := 0) C d_X10_takeIn_39 rfl ?_
      refine zg_X10_poolNumber C rfl tw_238 d_X10_takeIn_40 ?_
      refine z_aload_n (j := 0) C d_X10_takeIn_43 rfl ?_
      refine zg_X10_side C rfl tw_239 d_X10_takeIn_44 ?_
      refine z_lload_n (j := 2) C d_X10_takeIn_47 rfl ?_
      obtain ⟨hg48_0, hf⟩ := gd hf
      obtain ⟨q48, hF, hf⟩ := bd hf
      refine z_callV0 (rest := []) C [aI (gI (sL (sL S 4 12 ((gL S 4 12) + (p1 + p3))) 4 13 ((gL (sL S 4 12 ((gL S 4 12) + (p1 + p3))) 4 13) + p3)) 4 2), aI (gI (sL (sL S 4 12 ((gL S 4 12) + (p1 + p3))) 4 13 ((gL (sL S 4 12 ((gL S 4 12) + (p1 + p3))) 4 13) + p3)) 4 3), aJ p3] hg48_0 (by decide) rfl rfl k_X2_share tw_885 ⟨by decide, by decide⟩ (Nat.le_of_ble_eq_true rfl) d_X10_takeIn_48 (c_X2_share C.inj hF) rfl ?_
      exact z_sub [] rfl (t_X10_takeIn_51 C hr  _ hf)
theorem d_X10_zoneShortOf_0 : decode cX10_zoneShortOf 0 = .ok (.aload_n 0, 1) := by decide +kernel
theorem d_X10_zoneShortOf_1 : decode cX10_zoneShortOf 1 = .ok (.getfield 19, 3) := by decide +kernel
theorem d_X10_zoneShortOf_4 : decode cX10_zoneShortOf 4 = .ok (.istore_n 2, 1) := by decide +kernel
theorem d_X10_zoneShortOf_5 : decode cX10_zoneShortOf 5 = .ok (.aload_n 0, 1) := by decide +kernel
theorem d_X10_zoneShortOf_6 : decode cX10_zoneShortOf 6 = .ok (.getfield 15, 3) := by decide +kernel
theorem d_X10_zoneShortOf_9 : decode cX10_zoneShortOf 9 = .ok (.ifCond .ne 26, 3) := by decide +kernel
theorem d_X10_zoneShortOf_12 : decode cX10_zoneShortOf 12 = .ok (.iload_n 2, 1) := by decide +kernel
theorem d_X10_zoneShortOf_13 : decode cX10_zoneShortOf 13 = .ok (.ifCond .le 20, 3) := by decide +kernel
theorem d_X10_zoneShortOf_16 : decode cX10_zoneShortOf 16 = .ok (.iload_n 2, 1) := by decide +kernel
theorem d_X10_zoneShortOf_17 : decode cX10_zoneShortOf 17 = .ok (.invokestatic 103, 3) := by decide +kernel
theorem d_X10_zoneShortOf_20 : decode cX10_zoneShortOf 20 = .ok (.aload_n 0, 1) := by decide +kernel
theorem d_X10_zoneShortOf_21 : decode cX10_zoneShortOf 21 = .ok (.getfield 92, 3) := by decide +kernel
theorem d_X10_zoneShortOf_24 : decode cX10_zoneShortOf 24 = .ok (.if_icmp .le 9, 3) := by decide +kernel
theorem d_X10_zoneShortOf_27 : decode cX10_zoneShortOf 27 = .ok (.iinc 2 (-1), 3) := by decide +kernel
theorem d_X10_zoneShortOf_30 : decode cX10_zoneShortOf 30 = .ok (.goto (-18), 3) := by decide +kernel
theorem d_X10_zoneShortOf_33 : decode cX10_zoneShortOf 33 = .ok (.iload_n 2, 1) := by decide +kernel
theorem d_X10_zoneShortOf_34 : decode cX10_zoneShortOf 34 = .ok (.ireturn, 1) := by decide +kernel
theorem d_X10_zoneShortOf_35 : decode cX10_zoneShortOf 35 = .ok (.iload_n 2, 1) := by decide +kernel
theorem d_X10_zoneShortOf_36 : decode cX10_zoneShortOf 36 = .ok (.iconst 1, 1) := by decide +kernel
theorem d_X10_zoneShortOf_37 : decode cX10_zoneShortOf 37 = .ok (.iadd, 1) := by decide +kernel
theorem d_X10_zoneShortOf_38 : decode cX10_zoneShortOf 38 = .ok (.iload_n 1, 1) := by decide +kernel
theorem d_X10_zoneShortOf_39 : decode cX10_zoneShortOf 39 = .ok (.if_icmp .ge 22, 3) := by decide +kernel
theorem d_X10_zoneShortOf_42 : decode cX10_zoneShortOf 42 = .ok (.iload_n 2, 1) := by decide +kernel
theorem d_X10_zoneShortOf_43 : decode cX10_zoneShortOf 43 = .ok (.iconst 1, 1) := by decide +kernel
theorem d_X10_zoneShortOf_44 : decode cX10_zoneShortOf 44 = .ok (.iadd, 1) := by decide +kernel
theorem d_X10_zoneShortOf_45 : decode cX10_zoneShortOf 45 = .ok (.invokestatic 103, 3) := by decide +kernel
theorem d_X10_zoneShortOf_48 : decode cX10_zoneShortOf 48 = .ok (.aload_n 0, 1) := by decide +kernel
theorem d_X10_zoneShortOf_49 : decode cX10_zoneShortOf 49 = .ok (.getfield 92, 3) := by decide +kernel
theorem d_X10_zoneShortOf_52 : decode cX10_zoneShortOf 52 = .ok (.if_icmp .gt 9, 3) := by decide +kernel
theorem d_X10_zoneShortOf_55 : decode cX10_zoneShortOf 55 = .ok (.iinc 2 1, 3) := by decide +kernel
theorem d_X10_zoneShortOf_58 : decode cX10_zoneShortOf 58 = .ok (.goto (-23), 3) := by decide +kernel
theorem d_X10_zoneShortOf_61 : decode cX10_zoneShortOf 61 = .ok (.iload_n 2, 1) := by decide +kernel
theorem d_X10_zoneShortOf_62 : decode cX10_zoneShortOf 62 = .ok (.ireturn, 1) := by decide +kernel
def f_X10_zoneShortOf_33 (v2 : Int32) (S : Mem) : Option (Int32 × Mem) := (some (v2, S))
set_option maxRecDepth 20000 in
theorem t_X10_zoneShortOf_33 {X : MC} {Γ : GG} (C : CX X Γ cX10_zoneShortOf 3 "TickPools$Trade" 1 21) (hr : X.2.2.2.2.2.2.2.2.1.sig.returnType = some .int) {q : Int32 × Mem} (v2 : Int32) (S : Mem) (hf : f_X10_zoneShortOf_33 v2 S = some q) : ZZ X Γ 3 (QQ X Γ (some (aI q.1)) q.2) S 33 [(2, aI v2)] [] := by
  unfold f_X10_zoneShortOf_33 at hf
  refine z_iload_n (j := 0) C d_X10_zoneShortOf_33 rfl ?_
  exact r_i C hr rfl d_X10_zoneShortOf_34 hf
def f_X10_zoneShortOf_12B (k12 : Int32 → Mem → Option (Int32 × Mem)) (v2 : Int32) (S : Mem) : Option (Int32 × Mem) := (if v2 ≤ 0 then (f_X10_zoneShortOf_33  v2 S) else ((f_X0_rootAt v2 S).bind fun q17 => (if q17.1 ≤ (gI q17.2 4 5) then (f_X10_zoneShortOf_33  v2 q17.2) else (k12 (v2 + (-1)) q17.2))))
set_option maxRecDepth 20000 in
theorem t_X10_zoneShortOf_12B {X : MC} {Γ : GG} (C : CX X Γ cX10_zoneShortOf 3 "TickPools$Trade" 1 21) (hr : X.2.2.2.2.2.2.2.2.1.sig.returnType = some .int) {k12 : Int32 → Mem → Option (Int32 × Mem)} {q : Int32 × Mem} (hk12 : ∀ (v2 : Int32) (S : Mem), k12 v2 S = some q → ZZ X Γ 3 (QQ X Γ (some (aI q.1)) q.2) S 12 [(0, aR 4), (2, aI v2)] []) (v2 : Int32) (S : Mem) (hf : f_X10_zoneShortOf_12B k12 v2 S = some q) : ZZ X Γ 3 (QQ X Γ (some (aI q.1)) q.2) S 12 [(0, aR 4), (2, aI v2)] [] := by
  unfold f_X10_zoneShortOf_12B at hf
  refine z_iload_n (j := 1) C d_X10_zoneShortOf_12 rfl ?_
  refine z_if_le (tgt := 33) C d_X10_zoneShortOf_13 (by decide) hf (fun c13 hf => ?_) (fun c13 hf => ?_)
  · exact z_sub [1] rfl (t_X10_zoneShortOf_33 C hr  _ _ hf)
  · refine z_iload_n (j := 1) C d_X10_zoneShortOf_16 rfl ?_
    obtain ⟨q17, hF, hf⟩ := bd hf
    refine z_callS1 (rest := []) C [aI v2] k_X0_rootAt tw_869 ⟨by decide, by decide⟩ (Nat.le_of_ble_eq_true rfl) d_X10_zoneShortOf_17 (c_X0_rootAt C.inj hF) rfl ?_
    refine z_aload_n (j := 0) C d_X10_zoneShortOf_20 rfl ?_
    refine zg_X10_root C rfl tw_241 d_X10_zoneShortOf_21 ?_
    refine z_icmp_le (tgt := 33) C d_X10_zoneShortOf_24 (by decide) hf (fun c24 hf => ?_) (fun c24 hf => ?_)
    · exact z_sub [1] rfl (t_X10_zoneShortOf_33 C hr  _ _ hf)
    · refine z_iinc (j := 1) (v := (v2 + (-1))) (lv' := [(2, aI (v2 + (-1))), (0, aR 4)]) C d_X10_zoneShortOf_27 rfl rfl (by decide) rfl ?_
      refine z_goto (tgt := 12) C d_X10_zoneShortOf_30 (by decide) ?_
      exact z_sub [1, 0] rfl (hk12 _ _ hf)
def f_X10_zoneShortOf_12 : Nat → Int32 → Mem → Option (Int32 × Mem)
  | 0 => fun _ _ => none
  | n + 1 => f_X10_zoneShortOf_12B (f_X10_zoneShortOf_12 n)
theorem t_X10_zoneShortOf_12 {X : MC} {Γ : GG} (C : CX X Γ cX10_zoneShortOf 3 "TickPools$Trade" 1 21) (hr : X.2.2.2.2.2.2.2.2.1.sig.returnType = some .int) {q : Int32 × Mem} : ∀ (n : Nat) (v2 : Int32) (S : Mem) (hf : f_X10_zoneShortOf_12 n v2 S = some q), ZZ X Γ 3 (QQ X Γ (some (aI q.1)) q.2) S 12 [(0, aR 4), (2, aI v2)] []
  | 0, _, _, hf => nomatch (show (none : Option (Int32 × Mem)) = some q from hf)
  | n + 1, v2, S, hf => t_X10_zoneShortOf_12B C hr (t_X10_zoneShortOf_12 C hr n) v2 S hf
def f_X10_zoneShortOf_61 (v2 : Int32) (S : Mem) : Option (Int32 × Mem) := (some (v2, S))
set_option maxRecDepth 20000 in
theorem t_X10_zoneShortOf_61 {X : MC} {Γ : GG} (C : CX X Γ cX10_zoneShortOf 3 "TickPools$Trade" 1 21) (hr : X.2.2.2.2.2.2.2.2.1.sig.returnType = some .int) {q : Int32 × Mem} (v2 : Int32) (S : Mem) (hf : f_X10_zoneShortOf_61 v2 S = some q) : ZZ X Γ 3 (QQ X Γ (some (aI q.1)) q.2) S 61 [(2, aI v2)] [] := by
  unfold f_X10_zoneShortOf_61 at hf
  refine z_iload_n (j := 0) C d_X10_zoneShortOf_61 rfl ?_
  exact r_i C hr rfl d_X10_zoneShortOf_62 hf
def f_X10_zoneShortOf_35B (k35 : Int32 → Int32 → Mem → Option (Int32 × Mem)) (v1 : Int32) (v2 : Int32) (S : Mem) : Option (Int32 × Mem) := (if v1 ≤ (v2 + 1) then (f_X10_zoneShortOf_61  v2 S) else ((f_X0_rootAt (v2 + 1) S).bind fun q45 => (if (gI q45.2 4 5) < q45.1 then (f_X10_zoneShortOf_61  v2 q45.2) else (k35 v1 (v2 + 1) q45.2))))
set_option maxRecDepth 20000 in
theorem t_X10_zoneShortOf_35B {X : MC} {Γ : GG} (C : CX X Γ cX10_zoneShortOf 3 "TickPools$Trade" 1 21) (hr : X.2.2.2.2.2.2.2.2.1.sig.returnType = some .int) {k35 : Int32 → Int32 → Mem → Option (Int32 × Mem)} {q : Int32 × Mem} (hk35 : ∀ (v1 : Int32) (v2 : Int32) (S : Mem), k35 v1 v2 S = some q → ZZ X Γ 3 (QQ X Γ (some (aI q.1)) q.2) S 35 [(0, aR 4), (1, aI v1), (2, aI v2)] []) (v1 : Int32) (v2 : Int32) (S : Mem) (hf : f_X10_zoneShortOf_35B k35 v1 v2 S = some q) : ZZ X Γ 3 (QQ X Γ (some (aI q.1)) q.2) S 35 [(0, aR 4), (1, aI v1), (2, aI v2)] [] := by
  unfold f_X10_zoneShortOf_35B at hf
  refine z_iload_n (j := 2) C d_X10_zoneShortOf_35 rfl ?_
  refine z_iconst (v := 1) C d_X10_zoneShortOf_36 (by decide) ?_
  refine z_iadd C d_X10_zoneShortOf_37 ?_
  refine z_iload_n (j := 1) C d_X10_zoneShortOf_38 rfl ?_
  refine z_icmp_ge (tgt := 61) C d_X10_zoneShortOf_39 (by decide) hf (fun c39 hf => ?_) (fun c39 hf => ?_)
  · exact z_sub [2] rfl (t_X10_zoneShortOf_61 C hr  _ _ hf)
  · refine z_iload_n (j := 2) C d_X10_zoneShortOf_42 rfl ?_
    refine z_iconst (v := 1) C d_X10_zoneShortOf_43 (by decide) ?_
    refine z_iadd C d_X10_zoneShortOf_44 ?_
    obtain ⟨q45, hF, hf⟩ := bd hf
    refine z_callS1 (rest := []) C [aI (v2 + 1)] k_X0_rootAt tw_869 ⟨by decide, by decide⟩ (Nat.le_of_ble_eq_true rfl) d_X10_zoneShortOf_45 (c_X0_rootAt C.inj hF) rfl ?_
    refine z_aload_n (j := 0) C d_X10_zoneShortOf_48 rfl ?_
    refine zg_X10_root C rfl tw_241 d_X10_zoneShortOf_49 ?_
    refine z_icmp_gt (tgt := 61) C d_X10_zoneShortOf_52 (by decide) hf (fun c52 hf => ?_) (fun c52 hf => ?_)
    · exact z_sub [2] rfl (t_X10_zoneShortOf_61 C hr  _ _ hf)
    · refine z_iinc (j := 2) (v := (v2 + 1)) (lv' := [(2, aI (v2 + 1)), (0, aR 4), (1, aI v1)]) C d_X10_zoneShortOf_55 rfl rfl (by decide) rfl ?_
      refine z_goto (tgt := 35) C d_X10_zoneShortOf_58 (by decide) ?_
      exact z_sub [1, 2, 0] rfl (hk35 _ _ _ hf)
def f_X10_zoneShortOf_35 : Nat → Int32 → Int32 → Mem → Option (Int32 × Mem)
  | 0 => fun _ _ _ => none
  | n + 1 => f_X10_zoneShortOf_35B (f_X10_zoneShortOf_35 n)
theorem t_X10_zoneShortOf_35 {X : MC} {Γ : GG} (C : CX X Γ cX10_zoneShortOf 3 "TickPools$Trade" 1 21) (hr : X.2.2.2.2.2.2.2.2.1.sig.returnType = some .int) {q : Int32 × Mem} : ∀ (n : Nat) (v1 : Int32) (v2 : Int32) (S : Mem) (hf : f_X10_zoneShortOf_35 n v1 v2 S = some q), ZZ X Γ 3 (QQ X Γ (some (aI q.1)) q.2) S 35 [(0, aR 4), (1, aI v1), (2, aI v2)] []
  | 0, _, _, _, hf => nomatch (show (none : Option (Int32 × Mem)) = some q from hf)
  | n + 1, v1, v2, S, hf => t_X10_zoneShortOf_35B C hr (t_X10_zoneShortOf_35 C hr n) v1 v2 S hf
def f_X10_zoneShortOf_5 (v1 : Int32) (v2 : Int32) (S : Mem) : Option (Int32 × Mem) := (if (gI S 4 3) = 0 then (f_X10_zoneShortOf_12  100000 v2 S) else (f_X10_zoneShortOf_35  100000 v1 v2 S))
set_option maxRecDepth 20000 in
theorem t_X10_zoneShortOf_5 {X : MC} {Γ : GG} (C : CX X Γ cX10_zoneShortOf 3 "TickPools$Trade" 1 21) (hr : X.2.2.2.2.2.2.2.2.1.sig.returnType = some .int) {q : Int32 × Mem} (v1 : Int32) (v2 : Int32) (S : Mem) (hf : f_X10_zoneShortOf_5 v1 v2 S = some q) : ZZ X Γ 3 (QQ X Γ (some (aI q.1)) q.2) S 5 [(0, aR 4), (1, aI v1), (2, aI v2)] [] := by
  unfold f_X10_zoneShortOf_5 at hf
  refine z_aload_n (j := 0) C d_X10_zoneShortOf_5 rfl ?_
  refine zg_X10_side C rfl tw_239 d_X10_zoneShortOf_6 ?_
  refine z_if_ne (tgt := 35) C d_X10_zoneShortOf_9 (by decide) hf (fun c9 hf => ?_) (fun c9 hf => ?_)
  · exact z_sub [0, 1, 2] rfl (t_X10_zoneShortOf_35 C hr  100000 _ _ _ hf)
  · exact z_sub [0, 2] rfl (t_X10_zoneShortOf_12 C hr  100000 _ _ hf)
/-- TickPools$Trade.zoneShortOf(I)I -/
def f_X10_zoneShortOf (p1 : Int32) (S : Mem) : Option (Int32 × Mem) := (f_X10_zoneShortOf_5  p1 (gI S 4 8) S)
set_option maxRecDepth 20000 in
theorem c_X10_zoneShortOf {l : Launch} {Γ : GG} (hI : Inj Γ) {p1 : Int32} {S : Mem} {q : Int32 × Mem} (hf : f_X10_zoneShortOf p1 S = some q) : MM l Γ yX10_zoneShortOf cX10_zoneShortOf 3 (some .int) 1 21 [aR 4, aI p1] S (some (aI q.1)) q.2 := by
  refine met_of hI "TickPools$Trade" rfl (by decide +kernel) (Nat.le_of_ble_eq_true rfl) (fun X hX C hr => ?_)
  unfold f_X10_zoneShortOf at hf
  show ZZ X Γ 3 _ S 0 [(0, aR 4), (1, aI p1)] []
  refine z_aload_n (j := 0) C d_X10_zoneShortOf_0 rfl ?_
  refine zg_X10_zone C rfl tw_244 d_X10_zoneShortOf_1 ?_
  refine z_istore_n (lv' := [(2, aI (gI S 4 8)), (0, aR 4), (1, aI p1)]) C d_X10_zoneShortOf_4 (by decide) rfl ?_
  exact z_sub [1, 2, 0] rfl (t_X10_zoneShortOf_5 C hr  _ _ _ hf)
theorem d_X10_arrive_0 : decode cX10_arrive 0 = .ok (.aload_n 0, 1) := by decide +kernel
theorem d_X10_arrive_1 : decode cX10_arrive 1 = .ok (.iconst (-1), 1) := by decide +kernel
theorem d_X10_arrive_2 : decode cX10_arrive 2 = .ok (.putfield 37, 3) := by decide +kernel
theorem d_X10_arrive_5 : decode cX10_arrive 5 = .ok (.iload_n 3, 1) := by decide +kernel
theorem d_X10_arrive_6 : decode cX10_arrive 6 = .ok (.ifCond .eq 33, 3) := by decide +kernel
theorem d_X10_arrive_9 : decode cX10_arrive 9 = .ok (.iload_n 2, 1) := by decide +kernel
theorem d_X10_arrive_10 : decode cX10_arrive 10 = .ok (.ifCond .eq 29, 3) := by decide +kernel
theorem d_X10_arrive_13 : decode cX10_arrive 13 = .ok (.aload_n 0, 1) := by decide +kernel
theorem d_X10_arrive_14 : decode cX10_arrive 14 = .ok (.iconst 1, 1) := by decide +kernel
theorem d_X10_arrive_15 : decode cX10_arrive 15 = .ok (.putfield 22, 3) := by decide +kernel
theorem d_X10_arrive_18 : decode cX10_arrive 18 = .ok (.aload_n 0, 1) := by decide +kernel
theorem d_X10_arrive_19 : decode cX10_arrive 19 = .ok (.aload_n 0, 1) := by decide +kernel
theorem d_X10_arrive_20 : decode cX10_arrive 20 = .ok (.getfield 15, 3) := by decide +kernel
theorem d_X10_arrive_23 : decode cX10_arrive 23 = .ok (.ifCond .ne 7, 3) := by decide +kernel
theorem d_X10_arrive_26 : decode cX10_arrive 26 = .ok (.iload_n 1, 1) := by decide +kernel
theorem d_X10_arrive_27 : decode cX10_arrive 27 = .ok (.goto 6, 3) := by decide +kernel
theorem d_X10_arrive_30 : decode cX10_arrive 30 = .ok (.iload_n 1, 1) := by decide +kernel
theorem d_X10_arrive_31 : decode cX10_arrive 31 = .ok (.iconst 1, 1) := by decide +kernel
theorem d_X10_arrive_32 : decode cX10_arrive 32 = .ok (.isub, 1) := by decide +kernel
theorem d_X10_arrive_33 : decode cX10_arrive 33 = .ok (.putfield 19, 3) := by decide +kernel
theorem d_X10_arrive_36 : decode cX10_arrive 36 = .ok (.goto 52, 3) := by decide +kernel
theorem d_X10_arrive_39 : decode cX10_arrive 39 = .ok (.iload_n 3, 1) := by decide +kernel
theorem d_X10_arrive_40 : decode cX10_arrive 40 = .ok (.ifCond .eq 39, 3) := by decide +kernel
theorem d_X10_arrive_43 : decode cX10_arrive 43 = .ok (.aload_n 0, 1) := by decide +kernel
theorem d_X10_arrive_44 : decode cX10_arrive 44 = .ok (.iload_n 1, 1) := by decide +kernel
theorem d_X10_arrive_45 : decode cX10_arrive 45 = .ok (.putfield 37, 3) := by decide +kernel
theorem d_X10_arrive_48 : decode cX10_arrive 48 = .ok (.aload_n 0, 1) := by decide +kernel
theorem d_X10_arrive_49 : decode cX10_arrive 49 = .ok (.dup, 1) := by decide +kernel
theorem d_X10_arrive_50 : decode cX10_arrive 50 = .ok (.getfield 71, 3) := by decide +kernel
theorem d_X10_arrive_53 : decode cX10_arrive 53 = .ok (.iconst 1, 1) := by decide +kernel
theorem d_X10_arrive_54 : decode cX10_arrive 54 = .ok (.iadd, 1) := by decide +kernel
theorem d_X10_arrive_55 : decode cX10_arrive 55 = .ok (.putfield 71, 3) := by decide +kernel
theorem d_X10_arrive_58 : decode cX10_arrive 58 = .ok (.aload_n 0, 1) := by decide +kernel
theorem d_X10_arrive_59 : decode cX10_arrive 59 = .ok (.aload_n 0, 1) := by decide +kernel
theorem d_X10_arrive_60 : decode cX10_arrive 60 = .ok (.getfield 15, 3) := by decide +kernel
theorem d_X10_arrive_63 : decode cX10_arrive 63 = .ok (.ifCond .ne 9, 3) := by decide +kernel
theorem d_X10_arrive_66 : decode cX10_arrive 66 = .ok (.iload_n 1, 1) := by decide +kernel
theorem d_X10_arrive_67 : decode cX10_arrive 67 = .ok (.iconst 1, 1) := by decide +kernel
theorem d_X10_arrive_68 : decode cX10_arrive 68 = .ok (.isub, 1) := by decide +kernel
theorem d_X10_arrive_69 : decode cX10_arrive 69 = .ok (.goto 4, 3) := by decide +kernel
theorem d_X10_arrive_72 : decode cX10_arrive 72 = .ok (.iload_n 1, 1) := by decide +kernel
theorem d_X10_arrive_73 : decode cX10_arrive 73 = .ok (.putfield 19, 3) := by decide +kernel
theorem d_X10_arrive_76 : decode cX10_arrive 76 = .ok (.goto 12, 3) := by decide +kernel
theorem d_X10_arrive_79 : decode cX10_arrive 79 = .ok (.aload_n 0, 1) := by decide +kernel
theorem d_X10_arrive_80 : decode cX10_arrive 80 = .ok (.aload_n 0, 1) := by decide +kernel
theorem d_X10_arrive_81 : decode cX10_arrive 81 = .ok (.iload_n 1, 1) := by decide +kernel
theorem d_X10_arrive_82 : decode cX10_arrive 82 = .ok (.invokevirtual 148, 3) := by decide +kernel
theorem d_X10_arrive_85 : decode cX10_arrive 85 = .ok (.putfield 19, 3) := by decide +kernel
theorem d_X10_arrive_88 : decode cX10_arrive 88 = .ok (.aload_n 0, 1) := by decide +kernel
theorem d_X10_arrive_89 : decode cX10_arrive 89 = .ok (.getfield 34, 3) := by decide +kernel
theorem d_X10_arrive_92 : decode cX10_arrive 92 = .ok (.ifCond .eq 25, 3) := by decide +kernel
theorem d_X10_arrive_95 : decode cX10_arrive 95 = .ok (.aload_n 0, 1) := by decide +kernel
theorem d_X10_arrive_96 : decode cX10_arrive 96 = .ok (.getfield 67, 3) := by decide +kernel
theorem d_X10_arrive_99 : decode cX10_arrive 99 = .ok (.aload_n 0, 1) := by decide +kernel
theorem d_X10_arrive_100 : decode cX10_arrive 100 = .ok (.getfield 92, 3) := by decide +kernel
theorem d_X10_arrive_103 : decode cX10_arrive 103 = .ok (.putfield 87, 3) := by decide +kernel
theorem d_X10_arrive_106 : decode cX10_arrive 106 = .ok (.aload_n 0, 1) := by decide +kernel
theorem d_X10_arrive_107 : decode cX10_arrive 107 = .ok (.getfield 67, 3) := by decide +kernel
theorem d_X10_arrive_110 : decode cX10_arrive 110 = .ok (.aload_n 0, 1) := by decide +kernel
theorem d_X10_arrive_111 : decode cX10_arrive 111 = .ok (.getfield 19, 3) := by decide +kernel
theorem d_X10_arrive_114 : decode cX10_arrive 114 = .ok (.putfield 93, 3) := by decide +kernel
theorem d_X10_arrive_117 : decode cX10_arrive 117 = .ok (.return_, 1) := by decide +kernel
def f_X10_arrive_117 (S : Mem) : Option (Unit × Mem) := (some ((), S))
set_option maxRecDepth 20000 in
theorem t_X10_arrive_117 {X : MC} {Γ : GG} (C : CX X Γ cX10_arrive 4 "TickPools$Trade" 2 43) (hr : X.2.2.2.2.2.2.2.2.1.sig.returnType = none) {q : Unit × Mem} (S : Mem) (hf : f_X10_arrive_117 S = some q) : ZZ X Γ 4 (QQ X Γ none q.2) S 117 [] [] := by
  unfold f_X10_arrive_117 at hf
  exact r_v C hr d_X10_arrive_117 hf
def f_X10_arrive_88 (S : Mem) : Option (Unit × Mem) := (if (gI S 4 4) = 0 then (f_X10_arrive_117  S) else (if kd (gR S 4 1) = (3, 12) then (if kd (gR (sI S (gR S 4 1) 5 (gI S 4 5)) 4 1) = (3, 12) then (f_X10_arrive_117  (sI (sI S (gR S 4 1) 5 (gI S 4 5)) (gR (sI S (gR S 4 1) 5 (gI S 4 5)) 4 1) 6 (gI (sI S (gR S 4 1) 5 (gI S 4 5)) 4 8))) else none) else none))
set_option maxRecDepth 20000 in
theorem t_X10_arrive_88 {X : MC} {Γ : GG} (C : CX X Γ cX10_arrive 4 "TickPools$Trade" 2 43) (hr : X.2.2.2.2.2.2.2.2.1.sig.returnType = none) {q : Unit × Mem} (S : Mem) (hf : f_X10_arrive_88 S = some q) : ZZ X Γ 4 (QQ X Γ none q.2) S 88 [(0, aR 4)] [] := by
  unfold f_X10_arrive_88 at hf
  refine z_aload_n (j := 0) C d_X10_arrive_88 rfl ?_
  refine zg_X10_real C rfl tw_240 d_X10_arrive_89 ?_
  refine z_if_eq (tgt := 117) C d_X10_arrive_92 (by decide) hf (fun c92 hf => ?_) (fun c92 hf => ?_)
  · exact z_sub [] rfl (t_X10_arrive_117 C hr  _ hf)
  · refine z_aload_n (j := 0) C d_X10_arrive_95 rfl ?_
    refine zg_X10_pool C rfl tw_237 d_X10_arrive_96 ?_
    refine z_aload_n (j := 0) C d_X10_arrive_99 rfl ?_
    refine zg_X10_root C rfl tw_241 d_X10_arrive_100 ?_
    obtain ⟨hg103_0, hf⟩ := gd hf
    refine zp_X4_root C hg103_0 tw_96 d_X10_arrive_103 ?_
    refine z_aload_n (j := 0) C d_X10_arrive_106 rfl ?_
    refine zg_X10_pool C rfl tw_237 d_X10_arrive_107 ?_
    refine z_aload_n (j := 0) C d_X10_arrive_110 rfl ?_
    refine zg_X10_zone C rfl tw_244 d_X10_arrive_111 ?_
    obtain ⟨hg114_1, hf⟩ := gd hf
    refine zp_X4_zone C hg114_1 tw_100 d_X10_arrive_114 ?_
    exact z_sub [] rfl (t_X10_arrive_117 C hr  _ hf)
def f_X10_arrive_33 (s0 : Int32) (S : Mem) : Option (Unit × Mem) := (f_X10_arrive_88  (sI S 4 8 s0))
set_option maxRecDepth 20000 in
theorem t_X10_arrive_33 {X : MC} {Γ : GG} (C : CX X Γ cX10_arrive 4 "TickPools$Trade" 2 43) (hr : X.2.2.2.2.2.2.2.2.1.sig.returnType = none) {q : Unit × Mem} (s0 : Int32) (S : Mem) (hf : f_X10_arrive_33 s0 S = some q) : ZZ X Γ 4 (QQ X Γ none q.2) S 33 [(0, aR 4)] [aI s0, aR 4] := by
  unfold f_X10_arrive_33 at hf
  refine zp_X10_zone C rfl tw_244 d_X10_arrive_33 ?_
  refine z_goto (tgt := 88) C d_X10_arrive_36 (by decide) ?_
  exact z_sub [0] rfl (t_X10_arrive_88 C hr  _ hf)
def f_X10_arrive_73 (s0 : Int32) (S : Mem) : Option (Unit × Mem) := (f_X10_arrive_88  (sI S 4 8 s0))
set_option maxRecDepth 20000 in
theorem t_X10_arrive_73 {X : MC} {Γ : GG} (C : CX X Γ cX10_arrive 4 "TickPools$Trade" 2 43) (hr : X.2.2.2.2.2.2.2.2.1.sig.returnType = none) {q : Unit × Mem} (s0 : Int32) (S : Mem) (hf : f_X10_arrive_73 s0 S = some q) : ZZ X Γ 4 (QQ X Γ none q.2) S 73 [(0, aR 4)] [aI s0, aR 4] := by
  unfold f_X10_arrive_73 at hf
  refine zp_X10_zone C rfl tw_244 d_X10_arrive_73 ?_
  refine z_goto (tgt := 88) C d_X10_arrive_76 (by decide) ?_
  exact z_sub [0] rfl (t_X10_arrive_88 C hr  _ hf)
def f_X10_arrive_39 (v1 : Int32) (v3 : Int32) (S : Mem) : Option (Unit × Mem) := (if v3 = 0 then ((f_X10_zoneShortOf v1 S).bind fun q82 => (f_X10_arrive_88  (sI q82.2 4 8 q82.1))) else (if (gI (sI (sI S 4 7 v1) 4 9 ((gI (sI S 4 7 v1) 4 9) + 1)) 4 3) = 0 then (f_X10_arrive_73  (v1 - 1) (sI (sI S 4 7 v1) 4 9 ((gI (sI S 4 7 v1) 4 9) + 1))) else (f_X10_arrive_73  v1 (sI (sI S 4 7 v1) 4 9 ((gI (sI S 4 7 v1) 4 9) + 1)))))
set_option maxRecDepth 20000 in
theorem t_X10_arrive_39 {X : MC} {Γ : GG} (C : CX X Γ cX10_arrive 4 "TickPools$Trade" 2 43) (hr : X.2.2.2.2.2.2.2.2.1.sig.returnType = none) {q : Unit × Mem} (v1 : Int32) (v3 : Int32) (S : Mem) (hf : f_X10_arrive_39 v1 v3 S = some q) : ZZ X Γ 4 (QQ X Γ none q.2) S 39 [(0, aR 4), (1, aI v1), (3, aI v3)] [] := by
  unfold f_X10_arrive_39 at hf
  refine z_iload_n (j := 2) C d_X10_arrive_39 rfl ?_
  refine z_if_eq (tgt := 79) C d_X10_arrive_40 (by decide) hf (fun c40 hf => ?_) (fun c40 hf => ?_)
  · refine z_aload_n (j := 0) C d_X10_arrive_79 rfl ?_
    refine z_aload_n (j := 0) C d_X10_arrive_80 rfl ?_
    refine z_iload_n (j := 1) C d_X10_arrive_81 rfl ?_
    obtain ⟨q82, hF, hf⟩ := bd hf
    refine z_callV1 (rest := [aR 4]) C [aI v1] rfl (by decide) rfl rfl k_X10_zoneShortOf tw_890 ⟨by decide, by decide⟩ (Nat.le_of_ble_eq_true rfl) d_X10_arrive_82 (c_X10_zoneShortOf C.inj hF) rfl ?_
    refine zp_X10_zone C rfl tw_244 d_X10_arrive_85 ?_
    exact z_sub [0] rfl (t_X10_arrive_88 C hr  _ hf)
  · refine z_aload_n (j := 0) C d_X10_arrive_43 rfl ?_
    refine z_iload_n (j := 1) C d_X10_arrive_44 rfl ?_
    refine zp_X10_crossedTick C rfl tw_243 d_X10_arrive_45 ?_
    refine z_aload_n (j := 0) C d_X10_arrive_48 rfl ?_
    refine z_dup C d_X10_arrive_49 rfl ?_
    refine zg_X10_crossed C rfl tw_246 d_X10_arrive_50 ?_
    refine z_iconst (v := 1) C d_X10_arrive_53 (by decide) ?_
    refine z_iadd C d_X10_arrive_54 ?_
    refine zp_X10_crossed C rfl tw_246 d_X10_arrive_55 ?_
    refine z_aload_n (j := 0) C d_X10_arrive_58 rfl ?_
    refine z_aload_n (j := 0) C d_X10_arrive_59 rfl ?_
    refine zg_X10_side C rfl tw_239 d_X10_arrive_60 ?_
    refine z_if_ne (tgt := 72) C d_X10_arrive_63 (by decide) hf (fun c63 hf => ?_) (fun c63 hf => ?_)
    · refine z_iload_n (j := 1) C d_X10_arrive_72 rfl ?_
      exact z_sub [0] rfl (t_X10_arrive_73 C hr  _ _ hf)
    · refine z_iload_n (j := 1) C d_X10_arrive_66 rfl ?_
      refine z_iconst (v := 1) C d_X10_arrive_67 (by decide) ?_
      refine z_isub C d_X10_arrive_68 ?_
      refine z_goto (tgt := 73) C d_X10_arrive_69 (by decide) ?_
      exact z_sub [0] rfl (t_X10_arrive_73 C hr  _ _ hf)
/-- TickPools$Trade.arrive(IZZ)V -/
def f_X10_arrive (p1 : Int32) (p2 : Int32) (p3 : Int32) (S : Mem) : Option (Unit × Mem) := (if p3 = 0 then (f_X10_arrive_39  p1 p3 (sI S 4 7 (-1))) else (if p2 = 0 then (f_X10_arrive_39  p1 p3 (sI S 4 7 (-1))) else (if (gI (sI (sI S 4 7 (-1)) 4 6 1) 4 3) = 0 then (f_X10_arrive_33  p1 (sI (sI S 4 7 (-1)) 4 6 1)) else (f_X10_arrive_33  (p1 - 1) (sI (sI S 4 7 (-1)) 4 6 1)))))
set_option maxRecDepth 20000 in
theorem c_X10_arrive {l : Launch} {Γ : GG} (hI : Inj Γ) {p1 : Int32} {p2 : Int32} {p3 : Int32} {S : Mem} {q : Unit × Mem} (hf : f_X10_arrive p1 p2 p3 S = some q) : MM l Γ yX10_arrive cX10_arrive 4 (none) 2 43 [aR 4, aI p1, aI p2, aI p3] S none q.2 := by
  refine met_of hI "TickPools$Trade" rfl (by decide +kernel) (Nat.le_of_ble_eq_true rfl) (fun X hX C hr => ?_)
  unfold f_X10_arrive at hf
  show ZZ X Γ 4 _ S 0 [(0, aR 4), (1, aI p1), (2, aI p2), (3, aI p3)] []
  refine z_aload_n (j := 0) C d_X10_arrive_0 rfl ?_
  refine z_iconst (v := (-1)) C d_X10_arrive_1 (by decide) ?_
  refine zp_X10_crossedTick C rfl tw_243 d_X10_arrive_2 ?_
  refine z_iload_n (j := 3) C d_X10_arrive_5 rfl ?_
  refine z_if_eq (tgt := 39) C d_X10_arrive_6 (by decide) hf (fun c6 hf => ?_) (fun c6 hf => ?_)
  · exact z_sub [0, 1, 3] rfl (t_X10_arrive_39 C hr  _ _ _ hf)
  · refine z_iload_n (j := 2) C d_X10_arrive_9 rfl ?_
    refine z_if_eq (tgt := 39) C d_X10_arrive_10 (by decide) hf (fun c10 hf => ?_) (fun c10 hf => ?_)
    · exact z_sub [0, 1, 3] rfl (t_X10_arrive_39 C hr  _ _ _ hf)
    · refine z_aload_n (j := 0) C d_X10_arrive_13 rfl ?_
      refine z_iconst (v := 1) C d_X10_arrive_14 (by decide) ?_
      refine zp_X10_atEnd C rfl (by decide) tw_242 d_X10_arrive_15 ?_
      refine z_aload_n (j := 0) C d_X10_arrive_18 rfl ?_
      refine z_aload_n (j := 0) C d_X10_arrive_19 rfl ?_
      refine zg_X10_side C rfl tw_239 d_X10_arrive_20 ?_
      refine z_if_ne (tgt := 30) C d_X10_arrive_23 (by decide) hf (fun c23 hf => ?_) (fun c23 hf => ?_)
      · refine z_iload_n (j := 1) C d_X10_arrive_30 rfl ?_
        refine z_iconst (v := 1) C d_X10_arrive_31 (by decide) ?_
        refine z_isub C d_X10_arrive_32 ?_
        exact z_sub [0] rfl (t_X10_arrive_33 C hr  _ _ hf)
      · refine z_iload_n (j := 1) C d_X10_arrive_26 rfl ?_
        refine z_goto (tgt := 33) C d_X10_arrive_27 (by decide) ?_
        exact z_sub [0] rfl (t_X10_arrive_33 C hr  _ _ hf)
theorem d_X10_pourStep_0 : decode cX10_pourStep 0 = .ok (.aload_n 0, 1) := by decide +kernel
theorem d_X10_pourStep_1 : decode cX10_pourStep 1 = .ok (.iload_n 1, 1) := by decide +kernel
theorem d_X10_pourStep_2 : decode cX10_pourStep 2 = .ok (.invokevirtual 100, 3) := by decide +kernel
theorem d_X10_pourStep_5 : decode cX10_pourStep 5 = .ok (.istore_n 2, 1) := by decide +kernel
theorem d_X10_pourStep_6 : decode cX10_pourStep 6 = .ok (.iload_n 2, 1) := by decide +kernel
theorem d_X10_pourStep_7 : decode cX10_pourStep 7 = .ok (.invokestatic 103, 3) := by decide +kernel
theorem d_X10_pourStep_10 : decode cX10_pourStep 10 = .ok (.istore_n 3, 1) := by decide +kernel
theorem d_X10_pourStep_11 : decode cX10_pourStep 11 = .ok (.aload_n 0, 1) := by decide +kernel
theorem d_X10_pourStep_12 : decode cX10_pourStep 12 = .ok (.getfield 92, 3) := by decide +kernel
theorem d_X10_pourStep_15 : decode cX10_pourStep 15 = .ok (.istore 4, 2) := by decide +kernel
theorem d_X10_pourStep_17 : decode cX10_pourStep 17 = .ok (.sipush 1000, 3) := by decide +kernel
theorem d_X10_pourStep_20 : decode cX10_pourStep 20 = .ok (.aload_n 0, 1) := by decide +kernel
theorem d_X10_pourStep_21 : decode cX10_pourStep 21 = .ok (.getfield 67, 3) := by decide +kernel
theorem d_X10_pourStep_24 : decode cX10_pourStep 24 = .ok (.getfield 108, 3) := by decide +kernel
theorem d_X10_pourStep_27 : decode cX10_pourStep 27 = .ok (.isub, 1) := by decide +kernel
theorem d_X10_pourStep_28 : decode cX10_pourStep 28 = .ok (.istore 5, 2) := by decide +kernel
theorem d_X10_pourStep_30 : decode cX10_pourStep 30 = .ok (.aload_n 0, 1) := by decide +kernel
theorem d_X10_pourStep_31 : decode cX10_pourStep 31 = .ok (.getfield 40, 3) := by decide +kernel
theorem d_X10_pourStep_34 : decode cX10_pourStep 34 = .ok (.aload_n 0, 1) := by decide +kernel
theorem d_X10_pourStep_35 : decode cX10_pourStep 35 = .ok (.getfield 44, 3) := by decide +kernel
theorem d_X10_pourStep_38 : decode cX10_pourStep 38 = .ok (.aload_n 0, 1) := by decide +kernel
theorem d_X10_pourStep_39 : decode cX10_pourStep 39 = .ok (.getfield 19, 3) := by decide +kernel
theorem d_X10_pourStep_42 : decode cX10_pourStep 42 = .ok (.invokevirtual 111, 3) := by decide +kernel
theorem d_X10_pourStep_45 : decode cX10_pourStep 45 = .ok (.lstore 6, 2) := by decide +kernel
theorem d_X10_pourStep_47 : decode cX10_pourStep 47 = .ok (.aload_n 0, 1) := by decide +kernel
theorem d_X10_pourStep_48 : decode cX10_pourStep 48 = .ok (.getfield 15, 3) := by decide +kernel
theorem d_X10_pourStep_51 : decode cX10_pourStep 51 = .ok (.ifCond .ne 7, 3) := by decide +kernel
theorem d_X10_pourStep_54 : decode cX10_pourStep 54 = .ok (.iconst 1, 1) := by decide +kernel
theorem d_X10_pourStep_55 : decode cX10_pourStep 55 = .ok (.goto 4, 3) := by decide +kernel
theorem d_X10_pourStep_58 : decode cX10_pourStep 58 = .ok (.iconst 0, 1) := by decide +kernel
theorem d_X10_pourStep_59 : decode cX10_pourStep 59 = .ok (.lload 6, 2) := by decide +kernel
theorem d_X10_pourStep_61 : decode cX10_pourStep 61 = .ok (.aload_n 0, 1) := by decide +kernel
theorem d_X10_pourStep_62 : decode cX10_pourStep 62 = .ok (.getfield 92, 3) := by decide +kernel
theorem d_X10_pourStep_65 : decode cX10_pourStep 65 = .ok (.i2l, 1) := by decide +kernel
theorem d_X10_pourStep_66 : decode cX10_pourStep 66 = .ok (.iload_n 3, 1) := by decide +kernel
theorem d_X10_pourStep_67 : decode cX10_pourStep 67 = .ok (.i2l, 1) := by decide +kernel
theorem d_X10_pourStep_68 : decode cX10_pourStep 68 = .ok (.iconst 1, 1) := by decide +kernel
theorem d_X10_pourStep_69 : decode cX10_pourStep 69 = .ok (.invokestatic 115, 3) := by decide +kernel
theorem d_X10_pourStep_72 : decode cX10_pourStep 72 = .ok (.lstore 8, 2) := by decide +kernel
theorem d_X10_pourStep_74 : decode cX10_pourStep 74 = .ok (.aload_n 0, 1) := by decide +kernel
theorem d_X10_pourStep_75 : decode cX10_pourStep 75 = .ok (.getfield 26, 3) := by decide +kernel
theorem d_X10_pourStep_78 : decode cX10_pourStep 78 = .ok (.iload 5, 2) := by decide +kernel
theorem d_X10_pourStep_80 : decode cX10_pourStep 80 = .ok (.i2l, 1) := by decide +kernel
theorem d_X10_pourStep_81 : decode cX10_pourStep 81 = .ok (.lmul, 1) := by decide +kernel
theorem d_X10_pourStep_82 : decode cX10_pourStep 82 = .ok (.ldc2_w 119, 3) := by decide +kernel
theorem d_X10_pourStep_85 : decode cX10_pourStep 85 = .ok (.ldiv, 1) := by decide +kernel
theorem d_X10_pourStep_86 : decode cX10_pourStep 86 = .ok (.lstore 10, 2) := by decide +kernel
theorem d_X10_pourStep_88 : decode cX10_pourStep 88 = .ok (.lload 10, 2) := by decide +kernel
theorem d_X10_pourStep_90 : decode cX10_pourStep 90 = .ok (.lload 8, 2) := by decide +kernel
theorem d_X10_pourStep_92 : decode cX10_pourStep 92 = .ok (.lcmp, 1) := by decide +kernel
theorem d_X10_pourStep_93 : decode cX10_pourStep 93 = .ok (.ifCond .lt 7, 3) := by decide +kernel
theorem d_X10_pourStep_96 : decode cX10_pourStep 96 = .ok (.iconst 1, 1) := by decide +kernel
theorem d_X10_pourStep_97 : decode cX10_pourStep 97 = .ok (.goto 4, 3) := by decide +kernel
theorem d_X10_pourStep_100 : decode cX10_pourStep 100 = .ok (.iconst 0, 1) := by decide +kernel
theorem d_X10_pourStep_101 : decode cX10_pourStep 101 = .ok (.istore 12, 2) := by decide +kernel
theorem d_X10_pourStep_103 : decode cX10_pourStep 103 = .ok (.iload 12, 2) := by decide +kernel
theorem d_X10_pourStep_105 : decode cX10_pourStep 105 = .ok (.ifCond .eq 8, 3) := by decide +kernel
theorem d_X10_pourStep_108 : decode cX10_pourStep 108 = .ok (.lload 8, 2) := by decide +kernel
theorem d_X10_pourStep_110 : decode cX10_pourStep 110 = .ok (.goto 5, 3) := by decide +kernel
theorem d_X10_pourStep_113 : decode cX10_pourStep 113 = .ok (.lload 10, 2) := by decide +kernel
theorem d_X10_pourStep_115 : decode cX10_pourStep 115 = .ok (.lstore 13, 2) := by decide +kernel
theorem d_X10_pourStep_117 : decode cX10_pourStep 117 = .ok (.iload 12, 2) := by decide +kernel
theorem d_X10_pourStep_119 : decode cX10_pourStep 119 = .ok (.ifCond .eq 23, 3) := by decide +kernel
theorem d_X10_pourStep_122 : decode cX10_pourStep 122 = .ok (.lload 8, 2) := by decide +kernel
theorem d_X10_pourStep_124 : decode cX10_pourStep 124 = .ok (.aload_n 0, 1) := by decide +kernel
theorem d_X10_pourStep_125 : decode cX10_pourStep 125 = .ok (.getfield 67, 3) := by decide +kernel
theorem d_X10_pourStep_128 : decode cX10_pourStep 128 = .ok (.getfield 108, 3) := by decide +kernel
theorem d_X10_pourStep_131 : decode cX10_pourStep 131 = .ok (.i2l, 1) := by decide +kernel
theorem d_X10_pourStep_132 : decode cX10_pourStep 132 = .ok (.lmul, 1) := by decide +kernel
theorem d_X10_pourStep_133 : decode cX10_pourStep 133 = .ok (.iload 5, 2) := by decide +kernel
theorem d_X10_pourStep_135 : decode cX10_pourStep 135 = .ok (.i2l, 1) := by decide +kernel
theorem d_X10_pourStep_136 : decode cX10_pourStep 136 = .ok (.invokestatic 121, 3) := by decide +kernel
theorem d_X10_pourStep_139 : decode cX10_pourStep 139 = .ok (.goto 10, 3) := by decide +kernel
theorem d_X10_pourStep_142 : decode cX10_pourStep 142 = .ok (.aload_n 0, 1) := by decide +kernel
theorem d_X10_pourStep_143 : decode cX10_pourStep 143 = .ok (.getfield 26, 3) := by decide +kernel
theorem d_X10_pourStep_146 : decode cX10_pourStep 146 = .ok (.lload 10, 2) := by decide +kernel
theorem d_X10_pourStep_148 : decode cX10_pourStep 148 = .ok (.lsub, 1) := by decide +kernel
theorem d_X10_pourStep_149 : decode cX10_pourStep 149 = .ok (.lstore 15, 2) := by decide +kernel
theorem d_X10_pourStep_151 : decode cX10_pourStep 151 = .ok (.aload_n 0, 1) := by decide +kernel
theorem d_X10_pourStep_152 : decode cX10_pourStep 152 = .ok (.iload 12, 2) := by decide +kernel
theorem d_X10_pourStep_154 : decode cX10_pourStep 154 = .ok (.ifCond .eq 7, 3) := by decide +kernel
theorem d_X10_pourStep_157 : decode cX10_pourStep 157 = .ok (.iload_n 3, 1) := by decide +kernel
theorem d_X10_pourStep_158 : decode cX10_pourStep 158 = .ok (.goto 19, 3) := by decide +kernel
theorem d_X10_pourStep_161 : decode cX10_pourStep 161 = .ok (.aload_n 0, 1) := by decide +kernel
theorem d_X10_pourStep_162 : decode cX10_pourStep 162 = .ok (.getfield 15, 3) := by decide +kernel
theorem d_X10_pourStep_165 : decode cX10_pourStep 165 = .ok (.lload 6, 2) := by decide +kernel
theorem d_X10_pourStep_167 : decode cX10_pourStep 167 = .ok (.aload_n 0, 1) := by decide +kernel
theorem d_X10_pourStep_168 : decode cX10_pourStep 168 = .ok (.getfield 92, 3) := by decide +kernel
theorem d_X10_pourStep_171 : decode cX10_pourStep 171 = .ok (.i2l, 1) := by decide +kernel
theorem d_X10_pourStep_172 : decode cX10_pourStep 172 = .ok (.lload 10, 2) := by decide +kernel
theorem d_X10_pourStep_174 : decode cX10_pourStep 174 = .ok (.invokestatic 125, 3) := by decide +kernel
theorem d_X10_pourStep_177 : decode cX10_pourStep 177 = .ok (.putfield 92, 3) := by decide +kernel
theorem d_X10_pourStep_180 : decode cX10_pourStep 180 = .ok (.aload_n 0, 1) := by decide +kernel
theorem d_X10_pourStep_181 : decode cX10_pourStep 181 = .ok (.dup, 1) := by decide +kernel
theorem d_X10_pourStep_182 : decode cX10_pourStep 182 = .ok (.getfield 74, 3) := by decide +kernel
theorem d_X10_pourStep_185 : decode cX10_pourStep 185 = .ok (.aload_n 0, 1) := by decide +kernel
theorem d_X10_pourStep_186 : decode cX10_pourStep 186 = .ok (.getfield 15, 3) := by decide +kernel
theorem d_X10_pourStep_189 : decode cX10_pourStep 189 = .ok (.ifCond .eq 7, 3) := by decide +kernel
theorem d_X10_pourStep_192 : decode cX10_pourStep 192 = .ok (.iconst 1, 1) := by decide +kernel
theorem d_X10_pourStep_193 : decode cX10_pourStep 193 = .ok (.goto 4, 3) := by decide +kernel
theorem d_X10_pourStep_196 : decode cX10_pourStep 196 = .ok (.iconst 0, 1) := by decide +kernel
theorem d_X10_pourStep_197 : decode cX10_pourStep 197 = .ok (.lload 6, 2) := by decide +kernel
theorem d_X10_pourStep_199 : decode cX10_pourStep 199 = .ok (.iload 4, 2) := by decide +kernel
theorem d_X10_pourStep_201 : decode cX10_pourStep 201 = .ok (.i2l, 1) := by decide +kernel
theorem d_X10_pourStep_202 : decode cX10_pourStep 202 = .ok (.aload_n 0, 1) := by decide +kernel
theorem d_X10_pourStep_203 : decode cX10_pourStep 203 = .ok (.getfield 92, 3) := by decide +kernel
theorem d_X10_pourStep_206 : decode cX10_pourStep 206 = .ok (.i2l, 1) := by decide +kernel
theorem d_X10_pourStep_207 : decode cX10_pourStep 207 = .ok (.iconst 0, 1) := by decide +kernel
theorem d_X10_pourStep_208 : decode cX10_pourStep 208 = .ok (.invokestatic 115, 3) := by decide +kernel
theorem d_X10_pourStep_211 : decode cX10_pourStep 211 = .ok (.ladd, 1) := by decide +kernel
theorem d_X10_pourStep_212 : decode cX10_pourStep 212 = .ok (.putfield 74, 3) := by decide +kernel
theorem d_X10_pourStep_215 : decode cX10_pourStep 215 = .ok (.aload_n 0, 1) := by decide +kernel
theorem d_X10_pourStep_216 : decode cX10_pourStep 216 = .ok (.dup, 1) := by decide +kernel
theorem d_X10_pourStep_217 : decode cX10_pourStep 217 = .ok (.getfield 26, 3) := by decide +kernel
theorem d_X10_pourStep_220 : decode cX10_pourStep 220 = .ok (.lload 13, 2) := by decide +kernel
theorem d_X10_pourStep_222 : decode cX10_pourStep 222 = .ok (.lload 15, 2) := by decide +kernel
theorem d_X10_pourStep_224 : decode cX10_pourStep 224 = .ok (.ladd, 1) := by decide +kernel
theorem d_X10_pourStep_225 : decode cX10_pourStep 225 = .ok (.lsub, 1) := by decide +kernel
theorem d_X10_pourStep_226 : decode cX10_pourStep 226 = .ok (.putfield 26, 3) := by decide +kernel
theorem d_X10_pourStep_229 : decode cX10_pourStep 229 = .ok (.aload_n 0, 1) := by decide +kernel
theorem d_X10_pourStep_230 : decode cX10_pourStep 230 = .ok (.lload 13, 2) := by decide +kernel
theorem d_X10_pourStep_232 : decode cX10_pourStep 232 = .ok (.lload 15, 2) := by decide +kernel
theorem d_X10_pourStep_234 : decode cX10_pourStep 234 = .ok (.invokevirtual 129, 3) := by decide +kernel
theorem d_X10_pourStep_237 : decode cX10_pourStep 237 = .ok (.aload_n 0, 1) := by decide +kernel
theorem d_X10_pourStep_238 : decode cX10_pourStep 238 = .ok (.iload_n 2, 1) := by decide +kernel
theorem d_X10_pourStep_239 : decode cX10_pourStep 239 = .ok (.iload_n 2, 1) := by decide +kernel
theorem d_X10_pourStep_240 : decode cX10_pourStep 240 = .ok (.iload_n 1, 1) := by decide +kernel
theorem d_X10_pourStep_241 : decode cX10_pourStep 241 = .ok (.if_icmp .ne 7, 3) := by decide +kernel
theorem d_X10_pourStep_244 : decode cX10_pourStep 244 = .ok (.iconst 1, 1) := by decide +kernel
theorem d_X10_pourStep_245 : decode cX10_pourStep 245 = .ok (.goto 4, 3) := by decide +kernel
theorem d_X10_pourStep_248 : decode cX10_pourStep 248 = .ok (.iconst 0, 1) := by decide +kernel
theorem d_X10_pourStep_249 : decode cX10_pourStep 249 = .ok (.iload 12, 2) := by decide +kernel
theorem d_X10_pourStep_251 : decode cX10_pourStep 251 = .ok (.invokevirtual 133, 3) := by decide +kernel
theorem d_X10_pourStep_254 : decode cX10_pourStep 254 = .ok (.return_, 1) := by decide +kernel
def f_X10_pourStep_249 (v12 : Int32) (s0 : Int32) (s1 : Int32) (S : Mem) : Option (Unit × Mem) := ((f_X10_arrive s1 s0 v12 S).bind fun q251 => (some ((), q251.2)))
set_option maxRecDepth 20000 in
theorem t_X10_pourStep_249 {X : MC} {Γ : GG} (C : CX X Γ cX10_pourStep 17 "TickPools$Trade" 3 83) (hr : X.2.2.2.2.2.2.2.2.1.sig.returnType = none) {q : Unit × Mem} (v12 : Int32) (s0 : Int32) (s1 : Int32) (S : Mem) (hf : f_X10_pourStep_249 v12 s0 s1 S = some q) : ZZ X Γ 17 (QQ X Γ none q.2) S 249 [(12, aI v12)] [aI s0, aI s1, aR 4] := by
  unfold f_X10_pourStep_249 at hf
  refine z_iload (j := 0) C d_X10_pourStep_249 rfl ?_
  obtain ⟨q251, hF, hf⟩ := bd hf
  refine z_callV0 (rest := []) C [aI s1, aI s0, aI v12] rfl (by decide) rfl rfl k_X10_arrive tw_886 ⟨by decide, by decide⟩ (Nat.le_of_ble_eq_true rfl) d_X10_pourStep_251 (c_X10_arrive C.inj hF) rfl ?_
  exact r_v C hr d_X10_pourStep_254 hf
def f_X10_pourStep_197 (v1 : Int32) (v2 : Int32) (v4 : Int32) (v6 : Int64) (v12 : Int32) (v13 : Int64) (v15 : Int64) (s0 : Int32) (s1 : Int64) (S : Mem) : Option (Unit × Mem) := ((f_X0_between s0 v6 (v4.toInt64) (((gI S 4 5) : Int32).toInt64) 0 S).bind fun q208 => ((f_X10_takeIn v13 v15 (sL (sL q208.2 4 11 (s1 + q208.1)) 4 10 ((gL (sL q208.2 4 11 (s1 + q208.1)) 4 10) - (v13 + v15)))).bind fun q234 => (if v2 = v1 then (f_X10_pourStep_249  v12 1 v2 q234.2) else (f_X10_pourStep_249  v12 0 v2 q234.2))))
set_option maxRecDepth 20000 in
theorem t_X10_pourStep_197 {X : MC} {Γ : GG} (C : CX X Γ cX10_pourStep 17 "TickPools$Trade" 3 83) (hr : X.2.2.2.2.2.2.2.2.1.sig.returnType = none) {q : Unit × Mem} (v1 : Int32) (v2 : Int32) (v4 : Int32) (v6 : Int64) (v12 : Int32) (v13 : Int64) (v15 : Int64) (s0 : Int32) (s1 : Int64) (S : Mem) (hf : f_X10_pourStep_197 v1 v2 v4 v6 v12 v13 v15 s0 s1 S = some q) : ZZ X Γ 17 (QQ X Γ none q.2) S 197 [(0, aR 4), (1, aI v1), (2, aI v2), (4, aI v4), (6, aJ v6), (12, aI v12), (13, aJ v13), (15, aJ v15)] [aI s0, aJ s1, aR 4] := by
  unfold f_X10_pourStep_197 at hf
  refine z_lload (j := 4) C d_X10_pourStep_197 rfl ?_
  refine z_iload (j := 3) C d_X10_pourStep_199 rfl ?_
  refine z_i2l C d_X10_pourStep_201 ?_
  refine z_aload_n (j := 0) C d_X10_pourStep_202 rfl ?_
  refine zg_X10_root C rfl tw_241 d_X10_pourStep_203 ?_
  refine z_i2l C d_X10_pourStep_206 ?_
  refine z_iconst (v := 0) C d_X10_pourStep_207 (by decide) ?_
  obtain ⟨q208, hF, hf⟩ := bd hf
  refine z_callS1 (rest := [aJ s1, aR 4]) C [aI s0, aJ v6, aJ (v4.toInt64), aJ (((gI S 4 5) : Int32).toInt64), aI 0] k_X0_between tw_871 ⟨by decide, by decide⟩ (Nat.le_of_ble_eq_true rfl) d_X10_pourStep_208 (c_X0_between C.inj hF) rfl ?_
  refine z_ladd C d_X10_pourStep_211 ?_
  refine zp_X10_gave C rfl tw_251 d_X10_pourStep_212 ?_
  refine z_aload_n (j := 0) C d_X10_pourStep_215 rfl ?_
  refine z_dup C d_X10_pourStep_216 rfl ?_
  refine zg_X10_left C rfl tw_248 d_X10_pourStep_217 ?_
  refine z_lload (j := 6) C d_X10_pourStep_220 rfl ?_
  refine z_lload (j := 7) C d_X10_pourStep_222 rfl ?_
  refine z_ladd C d_X10_pourStep_224 ?_
  refine z_lsub C d_X10_pourStep_225 ?_
  refine zp_X10_left C rfl tw_248 d_X10_pourStep_226 ?_
  refine z_aload_n (j := 0) C d_X10_pourStep_229 rfl ?_
  refine z_lload (j := 6) C d_X10_pourStep_230 rfl ?_
  refine z_lload (j := 7) C d_X10_pourStep_232 rfl ?_
  obtain ⟨q234, hF, hf⟩ := bd hf
  refine z_callV0 (rest := []) C [aJ v13, aJ v15] rfl (by decide) rfl rfl k_X10_takeIn tw_881 ⟨by decide, by decide⟩ (Nat.le_of_ble_eq_true rfl) d_X10_pourStep_234 (c_X10_takeIn C.inj hF) rfl ?_
  refine z_aload_n (j := 0) C d_X10_pourStep_237 rfl ?_
  refine z_iload_n (j := 2) C d_X10_pourStep_238 rfl ?_
  refine z_iload_n (j := 2) C d_X10_pourStep_239 rfl ?_
  refine z_iload_n (j := 1) C d_X10_pourStep_240 rfl ?_
  refine z_icmp_ne (tgt := 248) C d_X10_pourStep_241 (by decide) hf (fun c241 hf => ?_) (fun c241 hf => ?_)
  · refine z_iconst (v := 0) C d_X10_pourStep_248 (by decide) ?_
    exact z_sub [5] rfl (t_X10_pourStep_249 C hr  _ _ _ _ hf)
  · refine z_iconst (v := 1) C d_X10_pourStep_244 (by decide) ?_
    refine z_goto (tgt := 249) C d_X10_pourStep_245 (by decide) ?_
    exact z_sub [5] rfl (t_X10_pourStep_249 C hr  _ _ _ _ hf)
def f_X10_pourStep_177 (v1 : Int32) (v2 : Int32) (v4 : Int32) (v6 : Int64) (v12 : Int32) (v13 : Int64) (v15 : Int64) (s0 : Int32) (S : Mem) : Option (Unit × Mem) := (if (gI (sI S 4 5 s0) 4 3) = 0 then (f_X10_pourStep_197  v1 v2 v4 v6 v12 v13 v15 0 (gL (sI S 4 5 s0) 4 11) (sI S 4 5 s0)) else (f_X10_pourStep_197  v1 v2 v4 v6 v12 v13 v15 1 (gL (sI S 4 5 s0) 4 11) (sI S 4 5 s0)))
set_option maxRecDepth 20000 in
theorem t_X10_pourStep_177 {X : MC} {Γ : GG} (C : CX X Γ cX10_pourStep 17 "TickPools$Trade" 3 83) (hr : X.2.2.2.2.2.2.2.2.1.sig.returnType = none) {q : Unit × Mem} (v1 : Int32) (v2 : Int32) (v4 : Int32) (v6 : Int64) (v12 : Int32) (v13 : Int64) (v15 : Int64) (s0 : Int32) (S : Mem) (hf : f_X10_pourStep_177 v1 v2 v4 v6 v12 v13 v15 s0 S = some q) : ZZ X Γ 17 (QQ X Γ none q.2) S 177 [(0, aR 4), (1, aI v1), (2, aI v2), (4, aI v4), (6, aJ v6), (12, aI v12), (13, aJ v13), (15, aJ v15)] [aI s0, aR 4] := by
  unfold f_X10_pourStep_177 at hf
  refine zp_X10_root C rfl tw_241 d_X10_pourStep_177 ?_
  refine z_aload_n (j := 0) C d_X10_pourStep_180 rfl ?_
  refine z_dup C d_X10_pourStep_181 rfl ?_
  refine zg_X10_gave C rfl tw_251 d_X10_pourStep_182 ?_
  refine z_aload_n (j := 0) C d_X10_pourStep_185 rfl ?_
  refine zg_X10_side C rfl tw_239 d_X10_pourStep_186 ?_
  refine z_if_eq (tgt := 196) C d_X10_pourStep_189 (by decide) hf (fun c189 hf => ?_) (fun c189 hf => ?_)
  · refine z_iconst (v := 0) C d_X10_pourStep_196 (by decide) ?_
    exact z_sub [0, 1, 2, 3, 4, 5, 6, 7] rfl (t_X10_pourStep_197 C hr  _ _ _ _ _ _ _ _ _ _ hf)
  · refine z_iconst (v := 1) C d_X10_pourStep_192 (by decide) ?_
    refine z_goto (tgt := 197) C d_X10_pourStep_193 (by decide) ?_
    exact z_sub [0, 1, 2, 3, 4, 5, 6, 7] rfl (t_X10_pourStep_197 C hr  _ _ _ _ _ _ _ _ _ _ hf)
def f_X10_pourStep_149 (v1 : Int32) (v2 : Int32) (v3 : Int32) (v4 : Int32) (v6 : Int64) (v10 : Int64) (v12 : Int32) (v13 : Int64) (s0 : Int64) (S : Mem) : Option (Unit × Mem) := (if v12 = 0 then ((f_X0_rootBehindIn (gI S 4 3) v6 (((gI S 4 5) : Int32).toInt64) v10 S).bind fun q174 => (f_X10_pourStep_177  v1 v2 v4 v6 v12 v13 s0 q174.1 q174.2)) else (f_X10_pourStep_177  v1 v2 v4 v6 v12 v13 s0 v3 S))
set_option maxRecDepth 20000 in
theorem t_X10_pourStep_149 {X : MC} {Γ : GG} (C : CX X Γ cX10_pourStep 17 "TickPools$Trade" 3 83) (hr : X.2.2.2.2.2.2.2.2.1.sig.returnType = none) {q : Unit × Mem} (v1 : Int32) (v2 : Int32) (v3 : Int32) (v4 : Int32) (v6 : Int64) (v10 : Int64) (v12 : Int32) (v13 : Int64) (s0 : Int64) (S : Mem) (hf : f_X10_pourStep_149 v1 v2 v3 v4 v6 v10 v12 v13 s0 S = some q) : ZZ X Γ 17 (QQ X Γ none q.2) S 149 [(0, aR 4), (1, aI v1), (2, aI v2), (3, aI v3), (4, aI v4), (6, aJ v6), (10, aJ v10), (12, aI v12), (13, aJ v13)] [aJ s0] := by
  unfold f_X10_pourStep_149 at hf
  refine z_lstore (lv' := [(15, aJ s0), (0, aR 4), (1, aI v1), (2, aI v2), (3, aI v3), (4, aI v4), (6, aJ v6), (10, aJ v10), (12, aI v12), (13, aJ v13)]) C d_X10_pourStep_149 (by decide) rfl ?_
  refine z_aload_n (j := 1) C d_X10_pourStep_151 rfl ?_
  refine z_iload (j := 8) C d_X10_pourStep_152 rfl ?_
  refine z_if_eq (tgt := 161) C d_X10_pourStep_154 (by decide) hf (fun c154 hf => ?_) (fun c154 hf => ?_)
  · refine z_aload_n (j := 1) C d_X10_pourStep_161 rfl ?_
    refine zg_X10_side C rfl tw_239 d_X10_pourStep_162 ?_
    refine z_lload (j := 6) C d_X10_pourStep_165 rfl ?_
    refine z_aload_n (j := 1) C d_X10_pourStep_167 rfl ?_
    refine zg_X10_root C rfl tw_241 d_X10_pourStep_168 ?_
    refine z_i2l C d_X10_pourStep_171 ?_
    refine z_lload (j := 7) C d_X10_pourStep_172 rfl ?_
    obtain ⟨q174, hF, hf⟩ := bd hf
    refine z_callS1 (rest := [aR 4]) C [aI (gI S 4 3), aJ v6, aJ (((gI S 4 5) : Int32).toInt64), aJ v10] k_X0_rootBehindIn tw_877 ⟨by decide, by decide⟩ (Nat.le_of_ble_eq_true rfl) d_X10_pourStep_174 (c_X0_rootBehindIn C.inj hF) rfl ?_
    exact z_sub [1, 2, 3, 5, 6, 8, 9, 0] rfl (t_X10_pourStep_177 C hr  _ _ _ _ _ _ _ _ _ hf)
  · refine z_iload_n (j := 4) C d_X10_pourStep_157 rfl ?_
    refine z_goto (tgt := 177) C d_X10_pourStep_158 (by decide) ?_
    exact z_sub [1, 2, 3, 5, 6, 8, 9, 0] rfl (t_X10_pourStep_177 C hr  _ _ _ _ _ _ _ _ _ hf)
def f_X10_pourStep_115 (v1 : Int32) (v2 : Int32) (v3 : Int32) (v4 : Int32) (v5 : Int32) (v6 : Int64) (v8 : Int64) (v10 : Int64) (v12 : Int32) (s0 : Int64) (S : Mem) : Option (Unit × Mem) := (if v12 = 0 then (f_X10_pourStep_149  v1 v2 v3 v4 v6 v10 v12 s0 ((gL S 4 10) - v10) S) else (if kd (gR S 4 1) = (3, 12) then ((f_X0_upwards (v8 * (((gI S (gR S 4 1) 2) : Int32).toInt64)) (v5.toInt64) S).bind fun q136 => (f_X10_pourStep_149  v1 v2 v3 v4 v6 v10 v12 s0 q136.1 q136.2)) else none))
set_option maxRecDepth 20000 in
theorem t_X10_pourStep_115 {X : MC} {Γ : GG} (C : CX X Γ cX10_pourStep 17 "TickPools$Trade" 3 83) (hr : X.2.2.2.2.2.2.2.2.1.sig.returnType = none) {q : Unit × Mem} (v1 : Int32) (v2 : Int32) (v3 : Int32) (v4 : Int32) (v5 : Int32) (v6 : Int64) (v8 : Int64) (v10 : Int64) (v12 : Int32) (s0 : Int64) (S : Mem) (hf : f_X10_pourStep_115 v1 v2 v3 v4 v5 v6 v8 v10 v12 s0 S = some q) : ZZ X Γ 17 (QQ X Γ none q.2) S 115 [(0, aR 4), (1, aI v1), (2, aI v2), (3, aI v3), (4, aI v4), (5, aI v5), (6, aJ v6), (8, aJ v8), (10, aJ v10), (12, aI v12)] [aJ s0] := by
  unfold f_X10_pourStep_115 at hf
  refine z_lstore (lv' := [(13, aJ s0), (0, aR 4), (1, aI v1), (2, aI v2), (3, aI v3), (4, aI v4), (5, aI v5), (6, aJ v6), (8, aJ v8), (10, aJ v10), (12, aI v12)]) C d_X10_pourStep_115 (by decide) rfl ?_
  refine z_iload (j := 10) C d_X10_pourStep_117 rfl ?_
  refine z_if_eq (tgt := 142) C d_X10_pourStep_119 (by decide) hf (fun c119 hf => ?_) (fun c119 hf => ?_)
  · refine z_aload_n (j := 1) C d_X10_pourStep_142 rfl ?_
    refine zg_X10_left C rfl tw_248 d_X10_pourStep_143 ?_
    refine z_lload (j := 9) C d_X10_pourStep_146 rfl ?_
    refine z_lsub C d_X10_pourStep_148 ?_
    exact z_sub [1, 2, 3, 4, 5, 7, 9, 10, 0] rfl (t_X10_pourStep_149 C hr  _ _ _ _ _ _ _ _ _ _ hf)
  · refine z_lload (j := 8) C d_X10_pourStep_122 rfl ?_
    refine z_aload_n (j := 1) C d_X10_pourStep_124 rfl ?_
    refine zg_X10_pool C rfl tw_237 d_X10_pourStep_125 ?_
    obtain ⟨hg128_0, hf⟩ := gd hf
    refine zg_X4_fee C hg128_0 tw_83 d_X10_pourStep_128 ?_
    refine z_i2l C d_X10_pourStep_131 ?_
    refine z_lmul C d_X10_pourStep_132 ?_
    refine z_iload (j := 6) C d_X10_pourStep_133 rfl ?_
    refine z_i2l C d_X10_pourStep_135 ?_
    obtain ⟨q136, hF, hf⟩ := bd hf
    refine z_callS1 (rest := []) C [aJ (v8 * (((gI S (gR S 4 1) 2) : Int32).toInt64)), aJ (v5.toInt64)] k_X0_upwards tw_876 ⟨by decide, by decide⟩ (Nat.le_of_ble_eq_true rfl) d_X10_pourStep_136 (c_X0_upwards C.inj hF) rfl ?_
    refine z_goto (tgt := 149) C d_X10_pourStep_139 (by decide) ?_
    exact z_sub [1, 2, 3, 4, 5, 7, 9, 10, 0] rfl (t_X10_pourStep_149 C hr  _ _ _ _ _ _ _ _ _ _ hf)
def f_X10_pourStep_101 (v1 : Int32) (v2 : Int32) (v3 : Int32) (v4 : Int32) (v5 : Int32) (v6 : Int64) (v8 : Int64) (v10 : Int64) (s0 : Int32) (S : Mem) : Option (Unit × Mem) := (if s0 = 0 then (f_X10_pourStep_115  v1 v2 v3 v4 v5 v6 v8 v10 s0 v10 S) else (f_X10_pourStep_115  v1 v2 v3 v4 v5 v6 v8 v10 s0 v8 S))
set_option maxRecDepth 20000 in
theorem t_X10_pourStep_101 {X : MC} {Γ : GG} (C : CX X Γ cX10_pourStep 17 "TickPools$Trade" 3 83) (hr : X.2.2.2.2.2.2.2.2.1.sig.returnType = none) {q : Unit × Mem} (v1 : Int32) (v2 : Int32) (v3 : Int32) (v4 : Int32) (v5 : Int32) (v6 : Int64) (v8 : Int64) (v10 : Int64) (s0 : Int32) (S : Mem) (hf : f_X10_pourStep_101 v1 v2 v3 v4 v5 v6 v8 v10 s0 S = some q) : ZZ X Γ 17 (QQ X Γ none q.2) S 101 [(0, aR 4), (1, aI v1), (2, aI v2), (3, aI v3), (4, aI v4), (5, aI v5), (6, aJ v6), (8, aJ v8), (10, aJ v10)] [aI s0] := by
  unfold f_X10_pourStep_101 at hf
  refine z_istore (lv' := [(12, aI s0), (0, aR 4), (1, aI v1), (2, aI v2), (3, aI v3), (4, aI v4), (5, aI v5), (6, aJ v6), (8, aJ v8), (10, aJ v10)]) C d_X10_pourStep_101 (by decide) rfl ?_
  refine z_iload (j := 0) C d_X10_pourStep_103 rfl ?_
  refine z_if_eq (tgt := 113) C d_X10_pourStep_105 (by decide) hf (fun c105 hf => ?_) (fun c105 hf => ?_)
  · refine z_lload (j := 9) C d_X10_pourStep_113 rfl ?_
    exact z_sub [1, 2, 3, 4, 5, 6, 7, 8, 9, 0] rfl (t_X10_pourStep_115 C hr  _ _ _ _ _ _ _ _ _ _ _ hf)
  · refine z_lload (j := 8) C d_X10_pourStep_108 rfl ?_
    refine z_goto (tgt := 115) C d_X10_pourStep_110 (by decide) ?_
    exact z_sub [1, 2, 3, 4, 5, 6, 7, 8, 9, 0] rfl (t_X10_pourStep_115 C hr  _ _ _ _ _ _ _ _ _ _ _ hf)
def f_X10_pourStep_88 (v1 : Int32) (v2 : Int32) (v3 : Int32) (v4 : Int32) (v5 : Int32) (v6 : Int64) (v8 : Int64) (v10 : Int64) (S : Mem) : Option (Unit × Mem) := (if v10 < v8 then (f_X10_pourStep_101  v1 v2 v3 v4 v5 v6 v8 v10 0 S) else (f_X10_pourStep_101  v1 v2 v3 v4 v5 v6 v8 v10 1 S))
set_option maxRecDepth 20000 in
theorem t_X10_pourStep_88 {X : MC} {Γ : GG} (C : CX X Γ cX10_pourStep 17 "TickPools$Trade" 3 83) (hr : X.2.2.2.2.2.2.2.2.1.sig.returnType = none) {q : Unit × Mem} (v1 : Int32) (v2 : Int32) (v3 : Int32) (v4 : Int32) (v5 : Int32) (v6 : Int64) (v8 : Int64) (v10 : Int64) (S : Mem) (hf : f_X10_pourStep_88 v1 v2 v3 v4 v5 v6 v8 v10 S = some q) : ZZ X Γ 17 (QQ X Γ none q.2) S 88 [(0, aR 4), (1, aI v1), (2, aI v2), (3, aI v3), (4, aI v4), (5, aI v5), (6, aJ v6), (8, aJ v8), (10, aJ v10)] [] := by
  unfold f_X10_pourStep_88 at hf
  refine z_lload (j := 8) C d_X10_pourStep_88 rfl ?_
  refine z_lload (j := 7) C d_X10_pourStep_90 rfl ?_
  refine z_llt (tgt := 100) C d_X10_pourStep_92 d_X10_pourStep_93 (by decide) hf (fun c92 hf => ?_) (fun c92 hf => ?_)
  · refine z_iconst (v := 0) C d_X10_pourStep_100 (by decide) ?_
    exact z_sub [0, 1, 2, 3, 4, 5, 6, 7, 8] rfl (t_X10_pourStep_101 C hr  _ _ _ _ _ _ _ _ _ _ hf)
  · refine z_iconst (v := 1) C d_X10_pourStep_96 (by decide) ?_
    refine z_goto (tgt := 101) C d_X10_pourStep_97 (by decide) ?_
    exact z_sub [0, 1, 2, 3, 4, 5, 6, 7, 8] rfl (t_X10_pourStep_101 C hr  _ _ _ _ _ _ _ _ _ _ hf)
def f_X10_pourStep_59 (v1 : Int32) (v2 : Int32) (v3 : Int32) (v4 : Int32) (v5 : Int32) (v6 : Int64) (s0 : Int32) (S : Mem) : Option (Unit × Mem) := ((f_X0_between s0 v6 (((gI S 4 5) : Int32).toInt64) (v3.toInt64) 1 S).bind fun q69 => (f_X10_pourStep_88  v1 v2 v3 v4 v5 v6 q69.1 (((gL q69.2 4 10) * (v5.toInt64)) / 1000) q69.2))
set_option maxRecDepth 20000 in
theorem t_X10_pourStep_59 {X : MC} {Γ : GG} (C : CX X Γ cX10_pourStep 17 "TickPools$Trade" 3 83) (hr : X.2.2.2.2.2.2.2.2.1.sig.returnType = none) {q : Unit × Mem} (v1 : Int32) (v2 : Int32) (v3 : Int32) (v4 : Int32) (v5 : Int32) (v6 : Int64) (s0 : Int32) (S : Mem) (hf : f_X10_pourStep_59 v1 v2 v3 v4 v5 v6 s0 S = some q) : ZZ X Γ 17 (QQ X Γ none q.2) S 59 [(0, aR 4), (1, aI v1), (2, aI v2), (3, aI v3), (4, aI v4), (5, aI v5), (6, aJ v6)] [aI s0] := by
  unfold f_X10_pourStep_59 at hf
  refine z_lload (j := 6) C d_X10_pourStep_59 rfl ?_
  refine z_aload_n (j := 0) C d_X10_pourStep_61 rfl ?_
  refine zg_X10_root C rfl tw_241 d_X10_pourStep_62 ?_
  refine z_i2l C d_X10_pourStep_65 ?_
  refine z_iload_n (j := 3) C d_X10_pourStep_66 rfl ?_
  refine z_i2l C d_X10_pourStep_67 ?_
  refine z_iconst (v := 1) C d_X10_pourStep_68 (by decide) ?_
  obtain ⟨q69, hF, hf⟩ := bd hf
  refine z_callS1 (rest := []) C [aI s0, aJ v6, aJ (((gI S 4 5) : Int32).toInt64), aJ (v3.toInt64), aI 1] k_X0_between tw_871 ⟨by decide, by decide⟩ (Nat.le_of_ble_eq_true rfl) d_X10_pourStep_69 (c_X0_between C.inj hF) rfl ?_
  refine z_lstore (lv' := [(8, aJ q69.1), (0, aR 4), (1, aI v1), (2, aI v2), (3, aI v3), (4, aI v4), (5, aI v5), (6, aJ v6)]) C d_X10_pourStep_72 (by decide) rfl ?_
  refine z_aload_n (j := 1) C d_X10_pourStep_74 rfl ?_
  refine zg_X10_left C rfl tw_248 d_X10_pourStep_75 ?_
  refine z_iload (j := 6) C d_X10_pourStep_78 rfl ?_
  refine z_i2l C d_X10_pourStep_80 ?_
  refine z_lmul C d_X10_pourStep_81 ?_
  refine z_ldc2 (v := 1000) C tw_875 d_X10_pourStep_82 ?_
  refine z_ldiv C d_X10_pourStep_85 (by decide) ?_
  refine z_lstore (lv' := [(10, aJ (((gL q69.2 4 10) * (v5.toInt64)) / 1000)), (8, aJ q69.1), (0, aR 4), (1, aI v1), (2, aI v2), (3, aI v3), (4, aI v4), (5, aI v5), (6, aJ v6)]) C d_X10_pourStep_86 (by decide) rfl ?_
  exact z_sub [2, 3, 4, 5, 6, 7, 8, 1, 0] rfl (t_X10_pourStep_88 C hr  _ _ _ _ _ _ _ _ _ hf)
def f_X10_pourStep_30 (v1 : Int32) (v2 : Int32) (v3 : Int32) (v4 : Int32) (v5 : Int32) (S : Mem) : Option (Unit × Mem) := (if kd (gR S 4 0) = (1, 9) then ((f_X2_liquidityAt (gR S 4 0) (gI S 4 2) (gI S 4 8) S).bind fun q42 => (if (gI q42.2 4 3) = 0 then (f_X10_pourStep_59  v1 v2 v3 v4 v5 q42.1 1 q42.2) else (f_X10_pourStep_59  v1 v2 v3 v4 v5 q42.1 0 q42.2))) else none)
set_option maxRecDepth 20000 in
theorem t_X10_pourStep_30 {X : MC} {Γ : GG} (C : CX X Γ cX10_pourStep 17 "TickPools$Trade" 3 83) (hr : X.2.2.2.2.2.2.2.2.1.sig.returnType = none) {q : Unit × Mem} (v1 : Int32) (v2 : Int32) (v3 : Int32) (v4 : Int32) (v5 : Int32) (S : Mem) (hf : f_X10_pourStep_30 v1 v2 v3 v4 v5 S = some q) : ZZ X Γ 17 (QQ X Γ none q.2) S 30 [(0, aR 4), (1, aI v1), (2, aI v2), (3, aI v3), (4, aI v4), (5, aI v5)] [] := by
  unfold f_X10_pourStep_30 at hf
  refine z_aload_n (j := 0) C d_X10_pourStep_30 rfl ?_
  refine zg_X10_market C rfl tw_236 d_X10_pourStep_31 ?_
  refine z_aload_n (j := 0) C d_X10_pourStep_34 rfl ?_
  refine zg_X10_poolNumber C rfl tw_238 d_X10_pourStep_35 ?_
  refine z_aload_n (j := 0) C d_X10_pourStep_38 rfl ?_
  refine zg_X10_zone C rfl tw_244 d_X10_pourStep_39 ?_
  obtain ⟨hg42_0, hf⟩ := gd hf
  obtain ⟨q42, hF, hf⟩ := bd hf
  refine z_callV1 (rest := []) C [aI (gI S 4 2), aI (gI S 4 8)] hg42_0 (by decide) rfl rfl k_X2_liquidityAt tw_870 ⟨by decide, by decide⟩ (Nat.le_of_ble_eq_true rfl) d_X10_pourStep_42 (c_X2_liquidityAt C.inj hF) rfl ?_
  refine z_lstore (lv' := [(6, aJ q42.1), (0, aR 4), (1, aI v1), (2, aI v2), (3, aI v3), (4, aI v4), (5, aI v5)]) C d_X10_pourStep_45 (by decide) rfl ?_
  refine z_aload_n (j := 1) C d_X10_pourStep_47 rfl ?_
  refine zg_X10_side C rfl tw_239 d_X10_pourStep_48 ?_
  refine z_if_ne (tgt := 58) C d_X10_pourStep_51 (by decide) hf (fun c51 hf => ?_) (fun c51 hf => ?_)
  · refine z_iconst (v := 0) C d_X10_pourStep_58 (by decide) ?_
    exact z_sub [1, 2, 3, 4, 5, 6, 0] rfl (t_X10_pourStep_59 C hr  _ _ _ _ _ _ _ _ hf)
  · refine z_iconst (v := 1) C d_X10_pourStep_54 (by decide) ?_
    refine z_goto (tgt := 59) C d_X10_pourStep_55 (by decide) ?_
    exact z_sub [1, 2, 3, 4, 5, 6, 0] rfl (t_X10_pourStep_59 C hr  _ _ _ _ _ _ _ _ hf)
def f_X10_pourStep_17 (v1 : Int32) (v2 : Int32) (v3 : Int32) (v4 : Int32) (S : Mem) : Option (Unit × Mem) := (if kd (gR S 4 1) = (3, 12) then (f_X10_pourStep_30  v1 v2 v3 v4 (1000 - (gI S (gR S 4 1) 2)) S) else none)
set_option maxRecDepth 20000 in
theorem t_X10_pourStep_17 {X : MC} {Γ : GG} (C : CX X Γ cX10_pourStep 17 "TickPools$Trade" 3 83) (hr : X.2.2.2.2.2.2.2.2.1.sig.returnType = none) {q : Unit × Mem} (v1 : Int32) (v2 : Int32) (v3 : Int32) (v4 : Int32) (S : Mem) (hf : f_X10_pourStep_17 v1 v2 v3 v4 S = some q) : ZZ X Γ 17 (QQ X Γ none q.2) S 17 [(0, aR 4), (1, aI v1), (2, aI v2), (3, aI v3), (4, aI v4)] [] := by
  unfold f_X10_pourStep_17 at hf
  refine z_sipush (v := 1000) C d_X10_pourStep_17 (by decide) ?_
  refine z_aload_n (j := 0) C d_X10_pourStep_20 rfl ?_
  refine zg_X10_pool C rfl tw_237 d_X10_pourStep_21 ?_
  obtain ⟨hg24_0, hf⟩ := gd hf
  refine zg_X4_fee C hg24_0 tw_83 d_X10_pourStep_24 ?_
  refine z_isub C d_X10_pourStep_27 ?_
  refine z_istore (lv' := [(5, aI (1000 - (gI S (gR S 4 1) 2))), (0, aR 4), (1, aI v1), (2, aI v2), (3, aI v3), (4, aI v4)]) C d_X10_pourStep_28 (by decide) rfl ?_
  exact z_sub [1, 2, 3, 4, 5, 0] rfl (t_X10_pourStep_30 C hr  _ _ _ _ _ _ hf)
/-- TickPools$Trade.pourStep(I)V -/
def f_X10_pourStep (p1 : Int32) (S : Mem) : Option (Unit × Mem) := ((f_X10_aimBefore p1 S).bind fun q2 => ((f_X0_rootAt q2.1 q2.2).bind fun q7 => (f_X10_pourStep_17  p1 q2.1 q7.1 (gI q7.2 4 5) q7.2)))
set_option maxRecDepth 20000 in
theorem c_X10_pourStep {l : Launch} {Γ : GG} (hI : Inj Γ) {p1 : Int32} {S : Mem} {q : Unit × Mem} (hf : f_X10_pourStep p1 S = some q) : MM l Γ yX10_pourStep cX10_pourStep 17 (none) 3 83 [aR 4, aI p1] S none q.2 := by
  refine met_of hI "TickPools$Trade" rfl (by decide +kernel) (Nat.le_of_ble_eq_true rfl) (fun X hX C hr => ?_)
  unfold f_X10_pourStep at hf
  show ZZ X Γ 17 _ S 0 [(0, aR 4), (1, aI p1)] []
  refine z_aload_n (j := 0) C d_X10_pourStep_0 rfl ?_
  refine z_iload_n (j := 1) C d_X10_pourStep_1 rfl ?_
  obtain ⟨q2, hF, hf⟩ := bd hf
  refine z_callV1 (rest := []) C [aI p1] rfl (by decide) rfl rfl k_X10_aimBefore tw_858 ⟨by decide, by decide⟩ (Nat.le_of_ble_eq_true rfl) d_X10_pourStep_2 (c_X10_aimBefore C.inj hF) rfl ?_
  refine z_istore_n (lv' := [(2, aI q2.1), (0, aR 4), (1, aI p1)]) C d_X10_pourStep_5 (by decide) rfl ?_
  refine z_iload_n (j := 0) C d_X10_pourStep_6 rfl ?_
  obtain ⟨q7, hF, hf⟩ := bd hf
  refine z_callS1 (rest := []) C [aI q2.1] k_X0_rootAt tw_869 ⟨by decide, by decide⟩ (Nat.le_of_ble_eq_true rfl) d_X10_pourStep_7 (c_X0_rootAt C.inj hF) rfl ?_
  refine z_istore_n (lv' := [(3, aI q7.1), (2, aI q2.1), (0, aR 4), (1, aI p1)]) C d_X10_pourStep_10 (by decide) rfl ?_
  refine z_aload_n (j := 2) C d_X10_pourStep_11 rfl ?_
  refine zg_X10_root C rfl tw_241 d_X10_pourStep_12 ?_
  refine z_istore (lv' := [(4, aI (gI q7.2 4 5)), (3, aI q7.1), (2, aI q2.1), (0, aR 4), (1, aI p1)]) C d_X10_pourStep_15 (by decide) rfl ?_
  exact z_sub [3, 4, 2, 1, 0] rfl (t_X10_pourStep_17 C hr  _ _ _ _ _ hf)
theorem d_X2_stakeAt_0 : decode cX2_stakeAt 0 = .ok (.iload_n 1, 1) := by decide +kernel
theorem d_X2_stakeAt_1 : decode cX2_stakeAt 1 = .ok (.ifCond .lt 29, 3) := by decide +kernel
theorem d_X2_stakeAt_4 : decode cX2_stakeAt 4 = .ok (.iload_n 1, 1) := by decide +kernel
theorem d_X2_stakeAt_5 : decode cX2_stakeAt 5 = .ok (.aload_n 0, 1) := by decide +kernel
theorem d_X2_stakeAt_6 : decode cX2_stakeAt 6 = .ok (.getfield 39, 3) := by decide +kernel
theorem d_X2_stakeAt_9 : decode cX2_stakeAt 9 = .ok (.if_icmp .ge 21, 3) := by decide +kernel
theorem d_X2_stakeAt_12 : decode cX2_stakeAt 12 = .ok (.iload_n 1, 1) := by decide +kernel
theorem d_X2_stakeAt_13 : decode cX2_stakeAt 13 = .ok (.aload_n 0, 1) := by decide +kernel
theorem d_X2_stakeAt_14 : decode cX2_stakeAt 14 = .ok (.getfield 24, 3) := by decide +kernel
theorem d_X2_stakeAt_17 : decode cX2_stakeAt 17 = .ok (.arraylength, 1) := by decide +kernel
theorem d_X2_stakeAt_18 : decode cX2_stakeAt 18 = .ok (.if_icmp .ge 12, 3) := by decide +kernel
theorem d_X2_stakeAt_21 : decode cX2_stakeAt 21 = .ok (.aload_n 0, 1) := by decide +kernel
theorem d_X2_stakeAt_22 : decode cX2_stakeAt 22 = .ok (.getfield 24, 3) := by decide +kernel
theorem d_X2_stakeAt_25 : decode cX2_stakeAt 25 = .ok (.iload_n 1, 1) := by decide +kernel
theorem d_X2_stakeAt_26 : decode cX2_stakeAt 26 = .ok (.aaload, 1) := by decide +kernel
theorem d_X2_stakeAt_27 : decode cX2_stakeAt 27 = .ok (.goto 4, 3) := by decide +kernel
theorem d_X2_stakeAt_30 : decode cX2_stakeAt 30 = .ok (.aconst_null, 1) := by decide +kernel
theorem d_X2_stakeAt_31 : decode cX2_stakeAt 31 = .ok (.areturn, 1) := by decide +kernel
def f_X2_stakeAt_31 (s0 : Nat) (S : Mem) : Option (Nat × Mem) := (some (s0, S))
set_option maxRecDepth 20000 in
theorem t_X2_stakeAt_31 {X : MC} {Γ : GG} (C : CX X Γ cX2_stakeAt 2 "TickPools$Market" 0 0) (hr : X.2.2.2.2.2.2.2.2.1.sig.returnType = some (.object "TickPools$Stake")) {q : Nat × Mem} (s0 : Nat) (S : Mem) (hf : f_X2_stakeAt_31 s0 S = some q) : ZZ X Γ 2 (QQ X Γ (some (aR q.1)) q.2) S 31 [] [aR s0] := by
  unfold f_X2_stakeAt_31 at hf
  exact r_a C hr d_X2_stakeAt_31 hf
def f_X2_stakeAt_30 (S : Mem) : Option (Nat × Mem) := (f_X2_stakeAt_31  0 S)
set_option maxRecDepth 20000 in
theorem t_X2_stakeAt_30 {X : MC} {Γ : GG} (C : CX X Γ cX2_stakeAt 2 "TickPools$Market" 0 0) (hr : X.2.2.2.2.2.2.2.2.1.sig.returnType = some (.object "TickPools$Stake")) {q : Nat × Mem} (S : Mem) (hf : f_X2_stakeAt_30 S = some q) : ZZ X Γ 2 (QQ X Γ (some (aR q.1)) q.2) S 30 [] [] := by
  unfold f_X2_stakeAt_30 at hf
  refine z_null C d_X2_stakeAt_30 ?_
  exact z_sub [] rfl (t_X2_stakeAt_31 C hr  _ _ hf)
/-- TickPools$Market.stakeAt(I)LTickPools$Stake; -/
def f_X2_stakeAt (h0 : Nat) (p1 : Int32) (S : Mem) : Option (Nat × Mem) := (if p1 < 0 then (f_X2_stakeAt_30  S) else (if kd h0 = (1, 9) then (if (gI S h0 3) ≤ p1 then (f_X2_stakeAt_30  S) else (if 12 ≤ p1 then (f_X2_stakeAt_30  S) else (if inb p1 12 = true then (f_X2_stakeAt_31  (gR S (h0 + 3) ((p1 : Int32).toNatClampNeg)) S) else none))) else none))
set_option maxRecDepth 20000 in
theorem c_X2_stakeAt {l : Launch} {Γ : GG} (hI : Inj Γ) {h0 : Nat} {p1 : Int32} {S : Mem} {q : Nat × Mem} (hf : f_X2_stakeAt h0 p1 S = some q) : MM l Γ yX2_stakeAt cX2_stakeAt 2 (some (.object "TickPools$Stake")) 0 0 [aR h0, aI p1] S (some (aR q.1)) q.2 := by
  refine met_of hI "TickPools$Market" rfl (by decide +kernel) (Nat.le_of_ble_eq_true rfl) (fun X hX C hr => ?_)
  unfold f_X2_stakeAt at hf
  show ZZ X Γ 2 _ S 0 [(0, aR h0), (1, aI p1)] []
  refine z_iload_n (j := 1) C d_X2_stakeAt_0 rfl ?_
  refine z_if_lt (tgt := 30) C d_X2_stakeAt_1 (by decide) hf (fun c1 hf => ?_) (fun c1 hf => ?_)
  · exact z_sub [] rfl (t_X2_stakeAt_30 C hr  _ hf)
  · refine z_iload_n (j := 1) C d_X2_stakeAt_4 rfl ?_
    refine z_aload_n (j := 0) C d_X2_stakeAt_5 rfl ?_
    obtain ⟨hg6_0, hf⟩ := gd hf
    refine zg_X2_stakes C hg6_0 tw_200 d_X2_stakeAt_6 ?_
    refine z_icmp_ge (tgt := 30) C d_X2_stakeAt_9 (by decide) hf (fun c9 hf => ?_) (fun c9 hf => ?_)
    · exact z_sub [] rfl (t_X2_stakeAt_30 C hr  _ hf)
    · refine z_iload_n (j := 1) C d_X2_stakeAt_12 rfl ?_
      refine z_aload_n (j := 0) C d_X2_stakeAt_13 rfl ?_
      refine zg_X2_stakeRow C hg6_0 tw_210 d_X2_stakeAt_14 ?_
      refine z_alen (v := 12) C (kdM3 hg6_0) (by decide) (by decide) d_X2_stakeAt_17 ?_
      refine z_icmp_ge (tgt := 30) C d_X2_stakeAt_18 (by decide) hf (fun c18 hf => ?_) (fun c18 hf => ?_)
      · exact z_sub [] rfl (t_X2_stakeAt_30 C hr  _ hf)
      · refine z_aload_n (j := 0) C d_X2_stakeAt_21 rfl ?_
        refine zg_X2_stakeRow C hg6_0 tw_210 d_X2_stakeAt_22 ?_
        refine z_iload_n (j := 1) C d_X2_stakeAt_25 rfl ?_
        obtain ⟨hi26_0, hf⟩ := gd hf
        refine z_aldS C (kdM3 hg6_0) hi26_0 d_X2_stakeAt_26 ?_
        refine z_goto (tgt := 31) C d_X2_stakeAt_27 (by decide) ?_
        exact z_sub [] rfl (t_X2_stakeAt_31 C hr  _ _ hf)
theorem d_X7_owed_0 : decode cX7_owed 0 = .ok (.iload_n 1, 1) := by decide +kernel
theorem d_X7_owed_1 : decode cX7_owed 1 = .ok (.ifCond .lt 8, 3) := by decide +kernel
theorem d_X7_owed_4 : decode cX7_owed 4 = .ok (.iload_n 1, 1) := by decide +kernel
theorem d_X7_owed_5 : decode cX7_owed 5 = .ok (.iconst 1, 1) := by decide +kernel
theorem d_X7_owed_6 : decode cX7_owed 6 = .ok (.if_icmp .le 5, 3) := by decide +kernel
theorem d_X7_owed_9 : decode cX7_owed 9 = .ok (.lconst 0, 1) := by decide +kernel
theorem d_X7_owed_10 : decode cX7_owed 10 = .ok (.lreturn, 1) := by decide +kernel
theorem d_X7_owed_11 : decode cX7_owed 11 = .ok (.aload_n 0, 1) := by decide +kernel
theorem d_X7_owed_12 : decode cX7_owed 12 = .ok (.getfield 13, 3) := by decide +kernel
theorem d_X7_owed_15 : decode cX7_owed 15 = .ok (.iload_n 1, 1) := by decide +kernel
theorem d_X7_owed_16 : decode cX7_owed 16 = .ok (.laload, 1) := by decide +kernel
theorem d_X7_owed_17 : decode cX7_owed 17 = .ok (.aload_n 0, 1) := by decide +kernel
theorem d_X7_owed_18 : decode cX7_owed 18 = .ok (.getfield 32, 3) := by decide +kernel
theorem d_X7_owed_21 : decode cX7_owed 21 = .ok (.i2l, 1) := by decide +kernel
theorem d_X7_owed_22 : decode cX7_owed 22 = .ok (.aload_n 0, 1) := by decide +kernel
theorem d_X7_owed_23 : decode cX7_owed 23 = .ok (.getfield 7, 3) := by decide +kernel
theorem d_X7_owed_26 : decode cX7_owed 26 = .ok (.iload_n 1, 1) := by decide +kernel
theorem d_X7_owed_27 : decode cX7_owed 27 = .ok (.laload, 1) := by decide +kernel
theorem d_X7_owed_28 : decode cX7_owed 28 = .ok (.lmul, 1) := by decide +kernel
theorem d_X7_owed_29 : decode cX7_owed 29 = .ok (.ldc2_w 39, 3) := by decide +kernel
theorem d_X7_owed_32 : decode cX7_owed 32 = .ok (.ldiv, 1) := by decide +kernel
theorem d_X7_owed_33 : decode cX7_owed 33 = .ok (.ladd, 1) := by decide +kernel
theorem d_X7_owed_34 : decode cX7_owed 34 = .ok (.lreturn, 1) := by decide +kernel
def f_X7_owed_9 (S : Mem) : Option (Int64 × Mem) := (some (0, S))
set_option maxRecDepth 20000 in
theorem t_X7_owed_9 {X : MC} {Γ : GG} (C : CX X Γ cX7_owed 2 "TickPools$Stake" 0 0) (hr : X.2.2.2.2.2.2.2.2.1.sig.returnType = some .long) {q : Int64 × Mem} (S : Mem) (hf : f_X7_owed_9 S = some q) : ZZ X Γ 2 (QQ X Γ (some (aJ q.1)) q.2) S 9 [] [] := by
  unfold f_X7_owed_9 at hf
  refine z_lconst (v := 0) C d_X7_owed_9 (by decide) ?_
  exact r_l C hr d_X7_owed_10 hf
/-- TickPools$Stake.owed(I)J -/
def f_X7_owed (h0 : Nat) (p1 : Int32) (S : Mem) : Option (Int64 × Mem) := (if p1 < 0 then (f_X7_owed_9  S) else (if p1 ≤ 1 then (if kd h0 = (6, 8) then (if inb p1 2 = true then (if inb p1 2 = true then (some (((gL S (h0 + 2) ((p1 : Int32).toNatClampNeg)) + (((((gI S h0 5) : Int32).toInt64) * (gL S (h0 + 1) ((p1 : Int32).toNatClampNeg))) / 1048576)), S)) else none) else none) else none) else (f_X7_owed_9  S)))
set_option maxRecDepth 20000 in
theorem c_X7_owed {l : Launch} {Γ : GG} (hI : Inj Γ) {h0 : Nat} {p1 : Int32} {S : Mem} {q : Int64 × Mem} (hf : f_X7_owed h0 p1 S = some q) : MM l Γ yX7_owed cX7_owed 2 (some .long) 0 0 [aR h0, aI p1] S (some (aJ q.1)) q.2 := by
  refine met_of hI "TickPools$Stake" rfl (by decide +kernel) (Nat.le_of_ble_eq_true rfl) (fun X hX C hr => ?_)
  unfold f_X7_owed at hf
  show ZZ X Γ 2 _ S 0 [(0, aR h0), (1, aI p1)] []
  refine z_iload_n (j := 1) C d_X7_owed_0 rfl ?_
  refine z_if_lt (tgt := 9) C d_X7_owed_1 (by decide) hf (fun c1 hf => ?_) (fun c1 hf => ?_)
  · exact z_sub [] rfl (t_X7_owed_9 C hr  _ hf)
  · refine z_iload_n (j := 1) C d_X7_owed_4 rfl ?_
    refine z_iconst (v := 1) C d_X7_owed_5 (by decide) ?_
    refine z_icmp_le (tgt := 11) C d_X7_owed_6 (by decide) hf (fun c6 hf => ?_) (fun c6 hf => ?_)
    · refine z_aload_n (j := 0) C d_X7_owed_11 rfl ?_
      obtain ⟨hg12_0, hf⟩ := gd hf
      refine zg_X7_debt C hg12_0 tw_169 d_X7_owed_12 ?_
      refine z_iload_n (j := 1) C d_X7_owed_15 rfl ?_
      obtain ⟨hi16_1, hf⟩ := gd hf
      refine z_lald C (kdS2 hg12_0) hi16_1 d_X7_owed_16 ?_
      refine z_aload_n (j := 0) C d_X7_owed_17 rfl ?_
      refine zg_X7_liquidity C hg12_0 tw_163 d_X7_owed_18 ?_
      refine z_i2l C d_X7_owed_21 ?_
      refine z_aload_n (j := 0) C d_X7_owed_22 rfl ?_
      refine zg_X7_gain C hg12_0 tw_167 d_X7_owed_23 ?_
      refine z_iload_n (j := 1) C d_X7_owed_26 rfl ?_
      obtain ⟨hi27_2, hf⟩ := gd hf
      refine z_lald C (kdS1 hg12_0) hi27_2 d_X7_owed_27 ?_
      refine z_lmul C d_X7_owed_28 ?_
      refine z_ldc2 (v := 1048576) C tw_914 d_X7_owed_29 ?_
      refine z_ldiv C d_X7_owed_32 (by decide) ?_
      refine z_ladd C d_X7_owed_33 ?_
      exact r_l C hr d_X7_owed_34 hf
    · exact z_sub [] rfl (t_X7_owed_9 C hr  _ hf)
theorem d_X7_settle_0 : decode cX7_settle 0 = .ok (.iconst 0, 1) := by decide +kernel
theorem d_X7_settle_1 : decode cX7_settle 1 = .ok (.istore_n 1, 1) := by decide +kernel
theorem d_X7_settle_2 : decode cX7_settle 2 = .ok (.iload_n 1, 1) := by decide +kernel
theorem d_X7_settle_3 : decode cX7_settle 3 = .ok (.iconst 2, 1) := by decide +kernel
theorem d_X7_settle_4 : decode cX7_settle 4 = .ok (.if_icmp .ge 27, 3) := by decide +kernel
theorem d_X7_settle_7 : decode cX7_settle 7 = .ok (.aload_n 0, 1) := by decide +kernel
theorem d_X7_settle_8 : decode cX7_settle 8 = .ok (.getfield 13, 3) := by decide +kernel
theorem d_X7_settle_11 : decode cX7_settle 11 = .ok (.iload_n 1, 1) := by decide +kernel
theorem d_X7_settle_12 : decode cX7_settle 12 = .ok (.aload_n 0, 1) := by decide +kernel
theorem d_X7_settle_13 : decode cX7_settle 13 = .ok (.iload_n 1, 1) := by decide +kernel
theorem d_X7_settle_14 : decode cX7_settle 14 = .ok (.invokevirtual 41, 3) := by decide +kernel
theorem d_X7_settle_17 : decode cX7_settle 17 = .ok (.lastore, 1) := by decide +kernel
theorem d_X7_settle_18 : decode cX7_settle 18 = .ok (.aload_n 0, 1) := by decide +kernel
theorem d_X7_settle_19 : decode cX7_settle 19 = .ok (.getfield 7, 3) := by decide +kernel
theorem d_X7_settle_22 : decode cX7_settle 22 = .ok (.iload_n 1, 1) := by decide +kernel
theorem d_X7_settle_23 : decode cX7_settle 23 = .ok (.lconst 0, 1) := by decide +kernel
theorem d_X7_settle_24 : decode cX7_settle 24 = .ok (.lastore, 1) := by decide +kernel
theorem d_X7_settle_25 : decode cX7_settle 25 = .ok (.iinc 1 1, 3) := by decide +kernel
theorem d_X7_settle_28 : decode cX7_settle 28 = .ok (.goto (-26), 3) := by decide +kernel
theorem d_X7_settle_31 : decode cX7_settle 31 = .ok (.return_, 1) := by decide +kernel
def f_X7_settle_2B (k2 : Nat → Int32 → Mem → Option (Unit × Mem)) (v0 : Nat) (v1 : Int32) (S : Mem) : Option (Unit × Mem) := (if 2 ≤ v1 then (some ((), S)) else (if kd v0 = (6, 8) then ((f_X7_owed v0 v1 S).bind fun q14 => (if inb v1 2 = true then (if inb v1 2 = true then (k2 v0 (v1 + 1) (sL (sL q14.2 (v0 + 2) ((v1 : Int32).toNatClampNeg) q14.1) (v0 + 1) ((v1 : Int32).toNatClampNeg) 0)) else none) else none)) else none))
set_option maxRecDepth 20000 in
theorem t_X7_settle_2B {X : MC} {Γ : GG} (C : CX X Γ cX7_settle 2 "TickPools$Stake" 1 21) (hr : X.2.2.2.2.2.2.2.2.1.sig.returnType = none) {k2 : Nat → Int32 → Mem → Option (Unit × Mem)} {q : Unit × Mem} (hk2 : ∀ (v0 : Nat) (v1 : Int32) (S : Mem), k2 v0 v1 S = some q → ZZ X Γ 2 (QQ X Γ none q.2) S 2 [(0, aR v0), (1, aI v1)] []) (v0 : Nat) (v1 : Int32) (S : Mem) (hf : f_X7_settle_2B k2 v0 v1 S = some q) : ZZ X Γ 2 (QQ X Γ none q.2) S 2 [(0, aR v0), (1, aI v1)] [] := by
  unfold f_X7_settle_2B at hf
  refine z_iload_n (j := 1) C d_X7_settle_2 rfl ?_
  refine z_iconst (v := 2) C d_X7_settle_3 (by decide) ?_
  refine z_icmp_ge (tgt := 31) C d_X7_settle_4 (by decide) hf (fun c4 hf => ?_) (fun c4 hf => ?_)
  · exact r_v C hr d_X7_settle_31 hf
  · refine z_aload_n (j := 0) C d_X7_settle_7 rfl ?_
    obtain ⟨hg8_0, hf⟩ := gd hf
    refine zg_X7_debt C hg8_0 tw_169 d_X7_settle_8 ?_
    refine z_iload_n (j := 1) C d_X7_settle_11 rfl ?_
    refine z_aload_n (j := 0) C d_X7_settle_12 rfl ?_
    refine z_iload_n (j := 1) C d_X7_settle_13 rfl ?_
    obtain ⟨q14, hF, hf⟩ := bd hf
    refine z_callV1 (rest := [aI v1, aR (v0 + 2)]) C [aI v1] hg8_0 (by decide) rfl rfl k_X7_owed tw_910 ⟨by decide, by decide⟩ (Nat.le_of_ble_eq_true rfl) d_X7_settle_14 (c_X7_owed C.inj hF) rfl ?_
    obtain ⟨hi17_2, hf⟩ := gd hf
    refine z_last C (kdS2 hg8_0) hi17_2 d_X7_settle_17 ?_
    refine z_aload_n (j := 0) C d_X7_settle_18 rfl ?_
    refine zg_X7_gain C hg8_0 tw_167 d_X7_settle_19 ?_
    refine z_iload_n (j := 1) C d_X7_settle_22 rfl ?_
    refine z_lconst (v := 0) C d_X7_settle_23 (by decide) ?_
    obtain ⟨hi24_3, hf⟩ := gd hf
    refine z_last C (kdS1 hg8_0) hi24_3 d_X7_settle_24 ?_
    refine z_iinc (j := 1) (v := (v1 + 1)) (lv' := [(1, aI (v1 + 1)), (0, aR v0)]) C d_X7_settle_25 rfl rfl (by decide) rfl ?_
    refine z_goto (tgt := 2) C d_X7_settle_28 (by decide) ?_
    exact z_sub [1, 0] rfl (hk2 _ _ _ hf)
def f_X7_settle_2 : Nat → Nat → Int32 → Mem → Option (Unit × Mem)
  | 0 => fun _ _ _ => none
  | n + 1 => f_X7_settle_2B (f_X7_settle_2 n)
theorem t_X7_settle_2 {X : MC} {Γ : GG} (C : CX X Γ cX7_settle 2 "TickPools$Stake" 1 21) (hr : X.2.2.2.2.2.2.2.2.1.sig.returnType = none) {q : Unit × Mem} : ∀ (n : Nat) (v0 : Nat) (v1 : Int32) (S : Mem) (hf : f_X7_settle_2 n v0 v1 S = some q), ZZ X Γ 2 (QQ X Γ none q.2) S 2 [(0, aR v0), (1, aI v1)] []
  | 0, _, _, _, hf => nomatch (show (none : Option (Unit × Mem)) = some q from hf)
  | n + 1, v0, v1, S, hf => t_X7_settle_2B C hr (t_X7_settle_2 C hr n) v0 v1 S hf
/-- TickPools$Stake.settle()V -/
def f_X7_settle (h0 : Nat) (S : Mem) : Option (Unit × Mem) := (f_X7_settle_2  100000 h0 0 S)
set_option maxRecDepth 20000 in
theorem c_X7_settle {l : Launch} {Γ : GG} (hI : Inj Γ) {h0 : Nat} {S : Mem} {q : Unit × Mem} (hf : f_X7_settle h0 S = some q) : MM l Γ yX7_settle cX7_settle 2 (none) 1 21 [aR h0] S none q.2 := by
  refine met_of hI "TickPools$Stake" rfl (by decide +kernel) (Nat.le_of_ble_eq_true rfl) (fun X hX C hr => ?_)
  unfold f_X7_settle at hf
  show ZZ X Γ 2 _ S 0 [(0, aR h0)] []
  refine z_iconst (v := 0) C d_X7_settle_0 (by decide) ?_
  refine z_istore_n (lv' := [(1, aI 0), (0, aR h0)]) C d_X7_settle_1 (by decide) rfl ?_
  exact z_sub [1, 0] rfl (t_X7_settle_2 C hr  100000 _ _ _ hf)
theorem d_X7_liesIn_0 : decode cX7_liesIn 0 = .ok (.iload 4, 2) := by decide +kernel
theorem d_X7_liesIn_2 : decode cX7_liesIn 2 = .ok (.ifCond .ne 62, 3) := by decide +kernel
theorem d_X7_liesIn_5 : decode cX7_liesIn 5 = .ok (.aload_n 1, 1) := by decide +kernel
theorem d_X7_liesIn_6 : decode cX7_liesIn 6 = .ok (.getfield 45, 3) := by decide +kernel
theorem d_X7_liesIn_9 : decode cX7_liesIn 9 = .ok (.aload_n 0, 1) := by decide +kernel
theorem d_X7_liesIn_10 : decode cX7_liesIn 10 = .ok (.getfield 26, 3) := by decide +kernel
theorem d_X7_liesIn_13 : decode cX7_liesIn 13 = .ok (.if_icmp .lt 5, 3) := by decide +kernel
theorem d_X7_liesIn_16 : decode cX7_liesIn 16 = .ok (.lconst 0, 1) := by decide +kernel
theorem d_X7_liesIn_17 : decode cX7_liesIn 17 = .ok (.lreturn, 1) := by decide +kernel
theorem d_X7_liesIn_18 : decode cX7_liesIn 18 = .ok (.aload_n 1, 1) := by decide +kernel
theorem d_X7_liesIn_19 : decode cX7_liesIn 19 = .ok (.getfield 45, 3) := by decide +kernel
theorem d_X7_liesIn_22 : decode cX7_liesIn 22 = .ok (.aload_n 0, 1) := by decide +kernel
theorem d_X7_liesIn_23 : decode cX7_liesIn 23 = .ok (.getfield 23, 3) := by decide +kernel
theorem d_X7_liesIn_26 : decode cX7_liesIn 26 = .ok (.if_icmp .ge 13, 3) := by decide +kernel
theorem d_X7_liesIn_29 : decode cX7_liesIn 29 = .ok (.aload_n 0, 1) := by decide +kernel
theorem d_X7_liesIn_30 : decode cX7_liesIn 30 = .ok (.getfield 23, 3) := by decide +kernel
theorem d_X7_liesIn_33 : decode cX7_liesIn 33 = .ok (.invokestatic 50, 3) := by decide +kernel
theorem d_X7_liesIn_36 : decode cX7_liesIn 36 = .ok (.goto 7, 3) := by decide +kernel
theorem d_X7_liesIn_39 : decode cX7_liesIn 39 = .ok (.aload_n 1, 1) := by decide +kernel
theorem d_X7_liesIn_40 : decode cX7_liesIn 40 = .ok (.getfield 56, 3) := by decide +kernel
theorem d_X7_liesIn_43 : decode cX7_liesIn 43 = .ok (.istore 6, 2) := by decide +kernel
theorem d_X7_liesIn_45 : decode cX7_liesIn 45 = .ok (.iconst 1, 1) := by decide +kernel
theorem d_X7_liesIn_46 : decode cX7_liesIn 46 = .ok (.lload_n 2, 1) := by decide +kernel
theorem d_X7_liesIn_47 : decode cX7_liesIn 47 = .ok (.iload 6, 2) := by decide +kernel
theorem d_X7_liesIn_49 : decode cX7_liesIn 49 = .ok (.i2l, 1) := by decide +kernel
theorem d_X7_liesIn_50 : decode cX7_liesIn 50 = .ok (.aload_n 0, 1) := by decide +kernel
theorem d_X7_liesIn_51 : decode cX7_liesIn 51 = .ok (.getfield 26, 3) := by decide +kernel
theorem d_X7_liesIn_54 : decode cX7_liesIn 54 = .ok (.invokestatic 50, 3) := by decide +kernel
theorem d_X7_liesIn_57 : decode cX7_liesIn 57 = .ok (.i2l, 1) := by decide +kernel
theorem d_X7_liesIn_58 : decode cX7_liesIn 58 = .ok (.iload 5, 2) := by decide +kernel
theorem d_X7_liesIn_60 : decode cX7_liesIn 60 = .ok (.invokestatic 59, 3) := by decide +kernel
theorem d_X7_liesIn_63 : decode cX7_liesIn 63 = .ok (.lreturn, 1) := by decide +kernel
theorem d_X7_liesIn_64 : decode cX7_liesIn 64 = .ok (.aload_n 1, 1) := by decide +kernel
theorem d_X7_liesIn_65 : decode cX7_liesIn 65 = .ok (.getfield 45, 3) := by decide +kernel
theorem d_X7_liesIn_68 : decode cX7_liesIn 68 = .ok (.aload_n 0, 1) := by decide +kernel
theorem d_X7_liesIn_69 : decode cX7_liesIn 69 = .ok (.getfield 23, 3) := by decide +kernel
theorem d_X7_liesIn_72 : decode cX7_liesIn 72 = .ok (.if_icmp .ge 5, 3) := by decide +kernel
theorem d_X7_liesIn_75 : decode cX7_liesIn 75 = .ok (.lconst 0, 1) := by decide +kernel
theorem d_X7_liesIn_76 : decode cX7_liesIn 76 = .ok (.lreturn, 1) := by decide +kernel
theorem d_X7_liesIn_77 : decode cX7_liesIn 77 = .ok (.aload_n 1, 1) := by decide +kernel
theorem d_X7_liesIn_78 : decode cX7_liesIn 78 = .ok (.getfield 45, 3) := by decide +kernel
theorem d_X7_liesIn_81 : decode cX7_liesIn 81 = .ok (.aload_n 0, 1) := by decide +kernel
theorem d_X7_liesIn_82 : decode cX7_liesIn 82 = .ok (.getfield 26, 3) := by decide +kernel
theorem d_X7_liesIn_85 : decode cX7_liesIn 85 = .ok (.if_icmp .lt 13, 3) := by decide +kernel
theorem d_X7_liesIn_88 : decode cX7_liesIn 88 = .ok (.aload_n 0, 1) := by decide +kernel
theorem d_X7_liesIn_89 : decode cX7_liesIn 89 = .ok (.getfield 26, 3) := by decide +kernel
theorem d_X7_liesIn_92 : decode cX7_liesIn 92 = .ok (.invokestatic 50, 3) := by decide +kernel
theorem d_X7_liesIn_95 : decode cX7_liesIn 95 = .ok (.goto 7, 3) := by decide +kernel
theorem d_X7_liesIn_98 : decode cX7_liesIn 98 = .ok (.aload_n 1, 1) := by decide +kernel
theorem d_X7_liesIn_99 : decode cX7_liesIn 99 = .ok (.getfield 56, 3) := by decide +kernel
theorem d_X7_liesIn_102 : decode cX7_liesIn 102 = .ok (.istore 6, 2) := by decide +kernel
theorem d_X7_liesIn_104 : decode cX7_liesIn 104 = .ok (.iconst 0, 1) := by decide +kernel
theorem d_X7_liesIn_105 : decode cX7_liesIn 105 = .ok (.lload_n 2, 1) := by decide +kernel
theorem d_X7_liesIn_106 : decode cX7_liesIn 106 = .ok (.aload_n 0, 1) := by decide +kernel
theorem d_X7_liesIn_107 : decode cX7_liesIn 107 = .ok (.getfield 23, 3) := by decide +kernel
theorem d_X7_liesIn_110 : decode cX7_liesIn 110 = .ok (.invokestatic 50, 3) := by decide +kernel
theorem d_X7_liesIn_113 : decode cX7_liesIn 113 = .ok (.i2l, 1) := by decide +kernel
theorem d_X7_liesIn_114 : decode cX7_liesIn 114 = .ok (.iload 6, 2) := by decide +kernel
theorem d_X7_liesIn_116 : decode cX7_liesIn 116 = .ok (.i2l, 1) := by decide +kernel
theorem d_X7_liesIn_117 : decode cX7_liesIn 117 = .ok (.iload 5, 2) := by decide +kernel
theorem d_X7_liesIn_119 : decode cX7_liesIn 119 = .ok (.invokestatic 59, 3) := by decide +kernel
theorem d_X7_liesIn_122 : decode cX7_liesIn 122 = .ok (.lreturn, 1) := by decide +kernel
def f_X7_liesIn_43 (v0 : Nat) (v2 : Int64) (v5 : Int32) (s0 : Int32) (S : Mem) : Option (Int64 × Mem) := (if kd v0 = (6, 8) then ((f_X0_rootAt (gI S v0 3) S).bind fun q54 => ((f_X0_between 1 v2 (s0.toInt64) (q54.1.toInt64) v5 q54.2).bind fun q60 => (some (q60.1, q60.2)))) else none)
set_option maxRecDepth 20000 in
theorem t_X7_liesIn_43 {X : MC} {Γ : GG} (C : CX X Γ cX7_liesIn 7 "TickPools$Stake" 1 37) (hr : X.2.2.2.2.2.2.2.2.1.sig.returnType = some .long) {q : Int64 × Mem} (v0 : Nat) (v2 : Int64) (v5 : Int32) (s0 : Int32) (S : Mem) (hf : f_X7_liesIn_43 v0 v2 v5 s0 S = some q) : ZZ X Γ 7 (QQ X Γ (some (aJ q.1)) q.2) S 43 [(0, aR v0), (2, aJ v2), (5, aI v5)] [aI s0] := by
  unfold f_X7_liesIn_43 at hf
  refine z_istore (lv' := [(6, aI s0), (0, aR v0), (2, aJ v2), (5, aI v5)]) C d_X7_liesIn_43 (by decide) rfl ?_
  refine z_iconst (v := 1) C d_X7_liesIn_45 (by decide) ?_
  refine z_lload_n (j := 2) C d_X7_liesIn_46 rfl ?_
  refine z_iload (j := 0) C d_X7_liesIn_47 rfl ?_
  refine z_i2l C d_X7_liesIn_49 ?_
  refine z_aload_n (j := 1) C d_X7_liesIn_50 rfl ?_
  obtain ⟨hg51_0, hf⟩ := gd hf
  refine zg_X7_high C hg51_0 tw_157 d_X7_liesIn_51 ?_
  obtain ⟨q54, hF, hf⟩ := bd hf
  refine z_callS1 (rest := [aJ (s0.toInt64), aJ v2, aI 1]) C [aI (gI S v0 3)] k_X0_rootAt tw_919 ⟨by decide, by decide⟩ (Nat.le_of_ble_eq_true rfl) d_X7_liesIn_54 (c_X0_rootAt C.inj hF) rfl ?_
  refine z_i2l C d_X7_liesIn_57 ?_
  refine z_iload (j := 3) C d_X7_liesIn_58 rfl ?_
  obtain ⟨q60, hF, hf⟩ := bd hf
  refine z_callS1 (rest := []) C [aI 1, aJ v2, aJ (s0.toInt64), aJ (q54.1.toInt64), aI v5] k_X0_between tw_920 ⟨by decide, by decide⟩ (Nat.le_of_ble_eq_true rfl) d_X7_liesIn_60 (c_X0_between C.inj hF) rfl ?_
  exact r_l C hr d_X7_liesIn_63 hf
def f_X7_liesIn_102 (v0 : Nat) (v2 : Int64) (v5 : Int32) (s0 : Int32) (S : Mem) : Option (Int64 × Mem) := (if kd v0 = (6, 8) then ((f_X0_rootAt (gI S v0 2) S).bind fun q110 => ((f_X0_between 0 v2 (q110.1.toInt64) (s0.toInt64) v5 q110.2).bind fun q119 => (some (q119.1, q119.2)))) else none)
set_option maxRecDepth 20000 in
theorem t_X7_liesIn_102 {X : MC} {Γ : GG} (C : CX X Γ cX7_liesIn 7 "TickPools$Stake" 1 37) (hr : X.2.2.2.2.2.2.2.2.1.sig.returnType = some .long) {q : Int64 × Mem} (v0 : Nat) (v2 : Int64) (v5 : Int32) (s0 : Int32) (S : Mem) (hf : f_X7_liesIn_102 v0 v2 v5 s0 S = some q) : ZZ X Γ 7 (QQ X Γ (some (aJ q.1)) q.2) S 102 [(0, aR v0), (2, aJ v2), (5, aI v5)] [aI s0] := by
  unfold f_X7_liesIn_102 at hf
  refine z_istore (lv' := [(6, aI s0), (0, aR v0), (2, aJ v2), (5, aI v5)]) C d_X7_liesIn_102 (by decide) rfl ?_
  refine z_iconst (v := 0) C d_X7_liesIn_104 (by decide) ?_
  refine z_lload_n (j := 2) C d_X7_liesIn_105 rfl ?_
  refine z_aload_n (j := 1) C d_X7_liesIn_106 rfl ?_
  obtain ⟨hg107_0, hf⟩ := gd hf
  refine zg_X7_low C hg107_0 tw_154 d_X7_liesIn_107 ?_
  obtain ⟨q110, hF, hf⟩ := bd hf
  refine z_callS1 (rest := [aJ v2, aI 0]) C [aI (gI S v0 2)] k_X0_rootAt tw_919 ⟨by decide, by decide⟩ (Nat.le_of_ble_eq_true rfl) d_X7_liesIn_110 (c_X0_rootAt C.inj hF) rfl ?_
  refine z_i2l C d_X7_liesIn_113 ?_
  refine z_iload (j := 0) C d_X7_liesIn_114 rfl ?_
  refine z_i2l C d_X7_liesIn_116 ?_
  refine z_iload (j := 3) C d_X7_liesIn_117 rfl ?_
  obtain ⟨q119, hF, hf⟩ := bd hf
  refine z_callS1 (rest := []) C [aI 0, aJ v2, aJ (q110.1.toInt64), aJ (s0.toInt64), aI v5] k_X0_between tw_920 ⟨by decide, by decide⟩ (Nat.le_of_ble_eq_true rfl) d_X7_liesIn_119 (c_X0_between C.inj hF) rfl ?_
  exact r_l C hr d_X7_liesIn_122 hf
/-- TickPools$Stake.liesIn(LTickPools$Pool;JIZ)J -/
def f_X7_liesIn (h0 : Nat) (p1 : Nat) (p2 : Int64) (p4 : Int32) (p5 : Int32) (S : Mem) : Option (Int64 × Mem) := (if p4 = 0 then (if kd p1 = (3, 12) then (if kd h0 = (6, 8) then (if (gI S p1 6) < (gI S h0 3) then (if (gI S h0 2) ≤ (gI S p1 6) then (f_X7_liesIn_43  h0 p2 p5 (gI S p1 5) S) else ((f_X0_rootAt (gI S h0 2) S).bind fun q33 => (f_X7_liesIn_43  h0 p2 p5 q33.1 q33.2))) else (some (0, S))) else none) else none) else (if kd p1 = (3, 12) then (if kd h0 = (6, 8) then (if (gI S h0 2) ≤ (gI S p1 6) then (if (gI S p1 6) < (gI S h0 3) then (f_X7_liesIn_102  h0 p2 p5 (gI S p1 5) S) else ((f_X0_rootAt (gI S h0 3) S).bind fun q92 => (f_X7_liesIn_102  h0 p2 p5 q92.1 q92.2))) else (some (0, S))) else none) else none))
set_option maxRecDepth 20000 in
theorem c_X7_liesIn {l : Launch} {Γ : GG} (hI : Inj Γ) {h0 : Nat} {p1 : Nat} {p2 : Int64} {p4 : Int32} {p5 : Int32} {S : Mem} {q : Int64 × Mem} (hf : f_X7_liesIn h0 p1 p2 p4 p5 S = some q) : MM l Γ yX7_liesIn cX7_liesIn 7 (some .long) 1 37 [aR h0, aR p1, aJ p2, aI p4, aI p5] S (some (aJ q.1)) q.2 := by
  refine met_of hI "TickPools$Stake" rfl (by decide +kernel) (Nat.le_of_ble_eq_true rfl) (fun X hX C hr => ?_)
  unfold f_X7_liesIn at hf
  show ZZ X Γ 7 _ S 0 [(0, aR h0), (1, aR p1), (2, aJ p2), (4, aI p4), (5, aI p5)] []
  refine z_iload (j := 3) C d_X7_liesIn_0 rfl ?_
  refine z_if_ne (tgt := 64) C d_X7_liesIn_2 (by decide) hf (fun c2 hf => ?_) (fun c2 hf => ?_)
  · refine z_aload_n (j := 1) C d_X7_liesIn_64 rfl ?_
    obtain ⟨hg65_0, hf⟩ := gd hf
    refine zg_X4_zone C hg65_0 tw_101 d_X7_liesIn_65 ?_
    refine z_aload_n (j := 0) C d_X7_liesIn_68 rfl ?_
    obtain ⟨hg69_1, hf⟩ := gd hf
    refine zg_X7_low C hg69_1 tw_154 d_X7_liesIn_69 ?_
    refine z_icmp_ge (tgt := 77) C d_X7_liesIn_72 (by decide) hf (fun c72 hf => ?_) (fun c72 hf => ?_)
    · refine z_aload_n (j := 1) C d_X7_liesIn_77 rfl ?_
      refine zg_X4_zone C hg65_0 tw_101 d_X7_liesIn_78 ?_
      refine z_aload_n (j := 0) C d_X7_liesIn_81 rfl ?_
      refine zg_X7_high C hg69_1 tw_157 d_X7_liesIn_82 ?_
      refine z_icmp_lt (tgt := 98) C d_X7_liesIn_85 (by decide) hf (fun c85 hf => ?_) (fun c85 hf => ?_)
      · refine z_aload_n (j := 1) C d_X7_liesIn_98 rfl ?_
        refine zg_X4_root C hg65_0 tw_97 d_X7_liesIn_99 ?_
        exact z_sub [0, 2, 4] rfl (t_X7_liesIn_102 C hr  _ _ _ _ _ hf)
      · refine z_aload_n (j := 0) C d_X7_liesIn_88 rfl ?_
        refine zg_X7_high C hg69_1 tw_157 d_X7_liesIn_89 ?_
        obtain ⟨q92, hF, hf⟩ := bd hf
        refine z_callS1 (rest := []) C [aI (gI S h0 3)] k_X0_rootAt tw_919 ⟨by decide, by decide⟩ (Nat.le_of_ble_eq_true rfl) d_X7_liesIn_92 (c_X0_rootAt C.inj hF) rfl ?_
        refine z_goto (tgt := 102) C d_X7_liesIn_95 (by decide) ?_
        exact z_sub [0, 2, 4] rfl (t_X7_liesIn_102 C hr  _ _ _ _ _ hf)
    · refine z_lconst (v := 0) C d_X7_liesIn_75 (by decide) ?_
      exact r_l C hr d_X7_liesIn_76 hf
  · refine z_aload_n (j := 1) C d_X7_liesIn_5 rfl ?_
    obtain ⟨hg6_0, hf⟩ := gd hf
    refine zg_X4_zone C hg6_0 tw_101 d_X7_liesIn_6 ?_
    refine z_aload_n (j := 0) C d_X7_liesIn_9 rfl ?_
    obtain ⟨hg10_1, hf⟩ := gd hf
    refine zg_X7_high C hg10_1 tw_157 d_X7_liesIn_10 ?_
    refine z_icmp_lt (tgt := 18) C d_X7_liesIn_13 (by decide) hf (fun c13 hf => ?_) (fun c13 hf => ?_)
    · refine z_aload_n (j := 1) C d_X7_liesIn_18 rfl ?_
      refine zg_X4_zone C hg6_0 tw_101 d_X7_liesIn_19 ?_
      refine z_aload_n (j := 0) C d_X7_liesIn_22 rfl ?_
      refine zg_X7_low C hg10_1 tw_154 d_X7_liesIn_23 ?_
      refine z_icmp_ge (tgt := 39) C d_X7_liesIn_26 (by decide) hf (fun c26 hf => ?_) (fun c26 hf => ?_)
      · refine z_aload_n (j := 1) C d_X7_liesIn_39 rfl ?_
        refine zg_X4_root C hg6_0 tw_97 d_X7_liesIn_40 ?_
        exact z_sub [0, 2, 4] rfl (t_X7_liesIn_43 C hr  _ _ _ _ _ hf)
      · refine z_aload_n (j := 0) C d_X7_liesIn_29 rfl ?_
        refine zg_X7_low C hg10_1 tw_154 d_X7_liesIn_30 ?_
        obtain ⟨q33, hF, hf⟩ := bd hf
        refine z_callS1 (rest := []) C [aI (gI S h0 2)] k_X0_rootAt tw_919 ⟨by decide, by decide⟩ (Nat.le_of_ble_eq_true rfl) d_X7_liesIn_33 (c_X0_rootAt C.inj hF) rfl ?_
        refine z_goto (tgt := 43) C d_X7_liesIn_36 (by decide) ?_
        exact z_sub [0, 2, 4] rfl (t_X7_liesIn_43 C hr  _ _ _ _ _ hf)
    · refine z_lconst (v := 0) C d_X7_liesIn_16 (by decide) ?_
      exact r_l C hr d_X7_liesIn_17 hf
theorem d_X2_putIntoPurse_0 : decode cX2_putIntoPurse 0 = .ok (.iload_n 1, 1) := by decide +kernel
theorem d_X2_putIntoPurse_1 : decode cX2_putIntoPurse 1 = .ok (.iconst 5, 1) := by decide +kernel
theorem d_X2_putIntoPurse_2 : decode cX2_putIntoPurse 2 = .ok (.imul, 1) := by decide +kernel
theorem d_X2_putIntoPurse_3 : decode cX2_putIntoPurse 3 = .ok (.iload_n 2, 1) := by decide +kernel
theorem d_X2_putIntoPurse_4 : decode cX2_putIntoPurse 4 = .ok (.iadd, 1) := by decide +kernel
theorem d_X2_putIntoPurse_5 : decode cX2_putIntoPurse 5 = .ok (.istore 4, 2) := by decide +kernel
theorem d_X2_putIntoPurse_7 : decode cX2_putIntoPurse 7 = .ok (.iload 4, 2) := by decide +kernel
theorem d_X2_putIntoPurse_9 : decode cX2_putIntoPurse 9 = .ok (.ifCond .lt 24, 3) := by decide +kernel
theorem d_X2_putIntoPurse_12 : decode cX2_putIntoPurse 12 = .ok (.iload 4, 2) := by decide +kernel
theorem d_X2_putIntoPurse_14 : decode cX2_putIntoPurse 14 = .ok (.aload_n 0, 1) := by decide +kernel
theorem d_X2_putIntoPurse_15 : decode cX2_putIntoPurse 15 = .ok (.getfield 9, 3) := by decide +kernel
theorem d_X2_putIntoPurse_18 : decode cX2_putIntoPurse 18 = .ok (.arraylength, 1) := by decide +kernel
theorem d_X2_putIntoPurse_19 : decode cX2_putIntoPurse 19 = .ok (.if_icmp .ge 14, 3) := by decide +kernel
theorem d_X2_putIntoPurse_22 : decode cX2_putIntoPurse 22 = .ok (.aload_n 0, 1) := by decide +kernel
theorem d_X2_putIntoPurse_23 : decode cX2_putIntoPurse 23 = .ok (.getfield 9, 3) := by decide +kernel
theorem d_X2_putIntoPurse_26 : decode cX2_putIntoPurse 26 = .ok (.iload 4, 2) := by decide +kernel
theorem d_X2_putIntoPurse_28 : decode cX2_putIntoPurse 28 = .ok (.dup2, 1) := by decide +kernel
theorem d_X2_putIntoPurse_29 : decode cX2_putIntoPurse 29 = .ok (.iaload, 1) := by decide +kernel
theorem d_X2_putIntoPurse_30 : decode cX2_putIntoPurse 30 = .ok (.iload_n 3, 1) := by decide +kernel
theorem d_X2_putIntoPurse_31 : decode cX2_putIntoPurse 31 = .ok (.iadd, 1) := by decide +kernel
theorem d_X2_putIntoPurse_32 : decode cX2_putIntoPurse 32 = .ok (.iastore, 1) := by decide +kernel
theorem d_X2_putIntoPurse_33 : decode cX2_putIntoPurse 33 = .ok (.return_, 1) := by decide +kernel
def f_X2_putIntoPurse_33 (S : Mem) : Option (Unit × Mem) := (some ((), S))
set_option maxRecDepth 20000 in
theorem t_X2_putIntoPurse_33 {X : MC} {Γ : GG} (C : CX X Γ cX2_putIntoPurse 5 "TickPools$Market" 0 0) (hr : X.2.2.2.2.2.2.2.2.1.sig.returnType = none) {q : Unit × Mem} (S : Mem) (hf : f_X2_putIntoPurse_33 S = some q) : ZZ X Γ 5 (QQ X Γ none q.2) S 33 [] [] := by
  unfold f_X2_putIntoPurse_33 at hf
  exact r_v C hr d_X2_putIntoPurse_33 hf
def f_X2_putIntoPurse_7 (v0 : Nat) (v3 : Int32) (v4 : Int32) (S : Mem) : Option (Unit × Mem) := (if v4 < 0 then (f_X2_putIntoPurse_33  S) else (if kd v0 = (1, 9) then (if 20 ≤ v4 then (f_X2_putIntoPurse_33  S) else (if inb v4 20 = true then (if inb v4 20 = true then (f_X2_putIntoPurse_33  (sI S (v0 + 1) ((v4 : Int32).toNatClampNeg) ((gI S (v0 + 1) ((v4 : Int32).toNatClampNeg)) + v3))) else none) else none)) else none))
set_option maxRecDepth 20000 in
theorem t_X2_putIntoPurse_7 {X : MC} {Γ : GG} (C : CX X Γ cX2_putIntoPurse 5 "TickPools$Market" 0 0) (hr : X.2.2.2.2.2.2.2.2.1.sig.returnType = none) {q : Unit × Mem} (v0 : Nat) (v3 : Int32) (v4 : Int32) (S : Mem) (hf : f_X2_putIntoPurse_7 v0 v3 v4 S = some q) : ZZ X Γ 5 (QQ X Γ none q.2) S 7 [(0, aR v0), (3, aI v3), (4, aI v4)] [] := by
  unfold f_X2_putIntoPurse_7 at hf
  refine z_iload (j := 2) C d_X2_putIntoPurse_7 rfl ?_
  refine z_if_lt (tgt := 33) C d_X2_putIntoPurse_9 (by decide) hf (fun c9 hf => ?_) (fun c9 hf => ?_)
  · exact z_sub [] rfl (t_X2_putIntoPurse_33 C hr  _ hf)
  · refine z_iload (j := 2) C d_X2_putIntoPurse_12 rfl ?_
    refine z_aload_n (j := 0) C d_X2_putIntoPurse_14 rfl ?_
    obtain ⟨hg15_0, hf⟩ := gd hf
    refine zg_X2_purses C hg15_0 tw_208 d_X2_putIntoPurse_15 ?_
    refine z_alen (v := 20) C (kdM1 hg15_0) (by decide) (by decide) d_X2_putIntoPurse_18 ?_
    refine z_icmp_ge (tgt := 33) C d_X2_putIntoPurse_19 (by decide) hf (fun c19 hf => ?_) (fun c19 hf => ?_)
    · exact z_sub [] rfl (t_X2_putIntoPurse_33 C hr  _ hf)
    · refine z_aload_n (j := 0) C d_X2_putIntoPurse_22 rfl ?_
      refine zg_X2_purses C hg15_0 tw_208 d_X2_putIntoPurse_23 ?_
      refine z_iload (j := 2) C d_X2_putIntoPurse_26 rfl ?_
      refine z_dup2_11 C d_X2_putIntoPurse_28 rfl rfl ?_
      obtain ⟨hi29_0, hf⟩ := gd hf
      refine z_iald C (kdM1 hg15_0) hi29_0 d_X2_putIntoPurse_29 ?_
      refine z_iload_n (j := 1) C d_X2_putIntoPurse_30 rfl ?_
      refine z_iadd C d_X2_putIntoPurse_31 ?_
      obtain ⟨hi32_1, hf⟩ := gd hf
      refine z_iast C (kdM1 hg15_0) hi32_1 d_X2_putIntoPurse_32 ?_
      exact z_sub [] rfl (t_X2_putIntoPurse_33 C hr  _ hf)
/-- TickPools$Market.putIntoPurse(III)V -/
def f_X2_putIntoPurse (h0 : Nat) (p1 : Int32) (p2 : Int32) (p3 : Int32) (S : Mem) : Option (Unit × Mem) := (f_X2_putIntoPurse_7  h0 p3 ((p1 * 5) + p2) S)
set_option maxRecDepth 20000 in
theorem c_X2_putIntoPurse {l : Launch} {Γ : GG} (hI : Inj Γ) {h0 : Nat} {p1 : Int32} {p2 : Int32} {p3 : Int32} {S : Mem} {q : Unit × Mem} (hf : f_X2_putIntoPurse h0 p1 p2 p3 S = some q) : MM l Γ yX2_putIntoPurse cX2_putIntoPurse 5 (none) 0 0 [aR h0, aI p1, aI p2, aI p3] S none q.2 := by
  refine met_of hI "TickPools$Market" rfl (by decide +kernel) (Nat.le_of_ble_eq_true rfl) (fun X hX C hr => ?_)
  unfold f_X2_putIntoPurse at hf
  show ZZ X Γ 5 _ S 0 [(0, aR h0), (1, aI p1), (2, aI p2), (3, aI p3)] []
  refine z_iload_n (j := 1) C d_X2_putIntoPurse_0 rfl ?_
  refine z_iconst (v := 5) C d_X2_putIntoPurse_1 (by decide) ?_
  refine z_imul C d_X2_putIntoPurse_2 ?_
  refine z_iload_n (j := 2) C d_X2_putIntoPurse_3 rfl ?_
  refine z_iadd C d_X2_putIntoPurse_4 ?_
  refine z_istore (lv' := [(4, aI ((p1 * 5) + p2)), (0, aR h0), (1, aI p1), (2, aI p2), (3, aI p3)]) C d_X2_putIntoPurse_5 (by decide) rfl ?_
  exact z_sub [1, 4, 0] rfl (t_X2_putIntoPurse_7 C hr  _ _ _ _ hf)
theorem d_X2_payOut_0 : decode cX2_payOut 0 = .ok (.iload_n 2, 1) := by decide +kernel
theorem d_X2_payOut_1 : decode cX2_payOut 1 = .ok (.invokestatic 61, 3) := by decide +kernel
theorem d_X2_payOut_4 : decode cX2_payOut 4 = .ok (.ifCond .eq 26, 3) := by decide +kernel
theorem d_X2_payOut_7 : decode cX2_payOut 7 = .ok (.aload_n 1, 1) := by decide +kernel
theorem d_X2_payOut_8 : decode cX2_payOut 8 = .ok (.getfield 65, 3) := by decide +kernel
theorem d_X2_payOut_11 : decode cX2_payOut 11 = .ok (.iload_n 2, 1) := by decide +kernel
theorem d_X2_payOut_12 : decode cX2_payOut 12 = .ok (.dup2, 1) := by decide +kernel
theorem d_X2_payOut_13 : decode cX2_payOut 13 = .ok (.iaload, 1) := by decide +kernel
theorem d_X2_payOut_14 : decode cX2_payOut 14 = .ok (.iload 4, 2) := by decide +kernel
theorem d_X2_payOut_16 : decode cX2_payOut 16 = .ok (.isub, 1) := by decide +kernel
theorem d_X2_payOut_17 : decode cX2_payOut 17 = .ok (.iastore, 1) := by decide +kernel
theorem d_X2_payOut_18 : decode cX2_payOut 18 = .ok (.aload_n 0, 1) := by decide +kernel
theorem d_X2_payOut_19 : decode cX2_payOut 19 = .ok (.iload_n 3, 1) := by decide +kernel
theorem d_X2_payOut_20 : decode cX2_payOut 20 = .ok (.aload_n 1, 1) := by decide +kernel
theorem d_X2_payOut_21 : decode cX2_payOut 21 = .ok (.iload_n 2, 1) := by decide +kernel
theorem d_X2_payOut_22 : decode cX2_payOut 22 = .ok (.invokevirtual 68, 3) := by decide +kernel
theorem d_X2_payOut_25 : decode cX2_payOut 25 = .ok (.iload 4, 2) := by decide +kernel
theorem d_X2_payOut_27 : decode cX2_payOut 27 = .ok (.invokevirtual 72, 3) := by decide +kernel
theorem d_X2_payOut_30 : decode cX2_payOut 30 = .ok (.return_, 1) := by decide +kernel
def f_X2_payOut_30 (S : Mem) : Option (Unit × Mem) := (some ((), S))
set_option maxRecDepth 20000 in
theorem t_X2_payOut_30 {X : MC} {Γ : GG} (C : CX X Γ cX2_payOut 5 "TickPools$Market" 1 24) (hr : X.2.2.2.2.2.2.2.2.1.sig.returnType = none) {q : Unit × Mem} (S : Mem) (hf : f_X2_payOut_30 S = some q) : ZZ X Γ 5 (QQ X Γ none q.2) S 30 [] [] := by
  unfold f_X2_payOut_30 at hf
  exact r_v C hr d_X2_payOut_30 hf
/-- TickPools$Market.payOut(LTickPools$Pool;III)V -/
def f_X2_payOut (h0 : Nat) (p1 : Nat) (p2 : Int32) (p3 : Int32) (p4 : Int32) (S : Mem) : Option (Unit × Mem) := ((f_X11_isSide p2 S).bind fun q1 => (if q1.1 = 0 then (f_X2_payOut_30  q1.2) else (if kd p1 = (3, 12) then (if inb p2 2 = true then (if inb p2 2 = true then ((f_X4_thingOn p1 p2 (sI q1.2 (p1 + 1) ((p2 : Int32).toNatClampNeg) ((gI q1.2 (p1 + 1) ((p2 : Int32).toNatClampNeg)) - p4))).bind fun q22 => (if kd h0 = (1, 9) then ((f_X2_putIntoPurse h0 p3 q22.1 p4 q22.2).bind fun q27 => (f_X2_payOut_30  q27.2)) else none)) else none) else none) else none)))
set_option maxRecDepth 20000 in
theorem c_X2_payOut {l : Launch} {Γ : GG} (hI : Inj Γ) {h0 : Nat} {p1 : Nat} {p2 : Int32} {p3 : Int32} {p4 : Int32} {S : Mem} {q : Unit × Mem} (hf : f_X2_payOut h0 p1 p2 p3 p4 S = some q) : MM l Γ yX2_payOut cX2_payOut 5 (none) 1 24 [aR h0, aR p1, aI p2, aI p3, aI p4] S none q.2 := by
  refine met_of hI "TickPools$Market" rfl (by decide +kernel) (Nat.le_of_ble_eq_true rfl) (fun X hX C hr => ?_)
  unfold f_X2_payOut at hf
  show ZZ X Γ 5 _ S 0 [(0, aR h0), (1, aR p1), (2, aI p2), (3, aI p3), (4, aI p4)] []
  refine z_iload_n (j := 2) C d_X2_payOut_0 rfl ?_
  obtain ⟨q1, hF, hf⟩ := bd hf
  refine z_callSN1 (rest := []) C [aI p2] k_X11_isSide (nw_2) ⟨by decide, by decide⟩ (Nat.le_of_ble_eq_true rfl) d_X2_payOut_1 (c_X11_isSide C.inj hF) rfl ?_
  refine z_if_eq (tgt := 30) C d_X2_payOut_4 (by decide) hf (fun c4 hf => ?_) (fun c4 hf => ?_)
  · exact z_sub [] rfl (t_X2_payOut_30 C hr  _ hf)
  · refine z_aload_n (j := 1) C d_X2_payOut_7 rfl ?_
    obtain ⟨hg8_0, hf⟩ := gd hf
    refine zg_X4_held C hg8_0 tw_108 d_X2_payOut_8 ?_
    refine z_iload_n (j := 2) C d_X2_payOut_11 rfl ?_
    refine z_dup2_11 C d_X2_payOut_12 rfl rfl ?_
    obtain ⟨hi13_1, hf⟩ := gd hf
    refine z_iald C (kdP1 hg8_0) hi13_1 d_X2_payOut_13 ?_
    refine z_iload (j := 4) C d_X2_payOut_14 rfl ?_
    refine z_isub C d_X2_payOut_16 ?_
    obtain ⟨hi17_2, hf⟩ := gd hf
    refine z_iast C (kdP1 hg8_0) hi17_2 d_X2_payOut_17 ?_
    refine z_aload_n (j := 0) C d_X2_payOut_18 rfl ?_
    refine z_iload_n (j := 3) C d_X2_payOut_19 rfl ?_
    refine z_aload_n (j := 1) C d_X2_payOut_20 rfl ?_
    refine z_iload_n (j := 2) C d_X2_payOut_21 rfl ?_
    obtain ⟨q22, hF, hf⟩ := bd hf
    refine z_callV1 (rest := [aI p3, aR h0]) C [aI p2] hg8_0 (by decide) rfl rfl k_X4_thingOn tw_804 ⟨by decide, by decide⟩ (Nat.le_of_ble_eq_true rfl) d_X2_payOut_22 (c_X4_thingOn C.inj hF) rfl ?_
    refine z_iload (j := 4) C d_X2_payOut_25 rfl ?_
    obtain ⟨hg27_1, hf⟩ := gd hf
    obtain ⟨q27, hF, hf⟩ := bd hf
    refine z_callV0 (rest := []) C [aI p3, aI q22.1, aI p4] hg27_1 (by decide) rfl rfl k_X2_putIntoPurse tw_805 ⟨by decide, by decide⟩ (Nat.le_of_ble_eq_true rfl) d_X2_payOut_27 (c_X2_putIntoPurse C.inj hF) rfl ?_
    exact z_sub [] rfl (t_X2_payOut_30 C hr  _ hf)
theorem d_X2_remove_0 : decode cX2_remove 0 = .ok (.aload_n 0, 1) := by decide +kernel
theorem d_X2_remove_1 : decode cX2_remove 1 = .ok (.iload_n 1, 1) := by decide +kernel
theorem d_X2_remove_2 : decode cX2_remove 2 = .ok (.invokevirtual 157, 3) := by decide +kernel
theorem d_X2_remove_5 : decode cX2_remove 5 = .ok (.astore_n 2, 1) := by decide +kernel
theorem d_X2_remove_6 : decode cX2_remove 6 = .ok (.iload_n 1, 1) := by decide +kernel
theorem d_X2_remove_7 : decode cX2_remove 7 = .ok (.istore_n 3, 1) := by decide +kernel
theorem d_X2_remove_8 : decode cX2_remove 8 = .ok (.iload_n 3, 1) := by decide +kernel
theorem d_X2_remove_9 : decode cX2_remove 9 = .ok (.iconst 1, 1) := by decide +kernel
theorem d_X2_remove_10 : decode cX2_remove 10 = .ok (.iadd, 1) := by decide +kernel
theorem d_X2_remove_11 : decode cX2_remove 11 = .ok (.aload_n 0, 1) := by decide +kernel
theorem d_X2_remove_12 : decode cX2_remove 12 = .ok (.getfield 39, 3) := by decide +kernel
theorem d_X2_remove_15 : decode cX2_remove 15 = .ok (.if_icmp .ge 38, 3) := by decide +kernel
theorem d_X2_remove_18 : decode cX2_remove 18 = .ok (.iload_n 3, 1) := by decide +kernel
theorem d_X2_remove_19 : decode cX2_remove 19 = .ok (.iconst 1, 1) := by decide +kernel
theorem d_X2_remove_20 : decode cX2_remove 20 = .ok (.iadd, 1) := by decide +kernel
theorem d_X2_remove_21 : decode cX2_remove 21 = .ok (.aload_n 0, 1) := by decide +kernel
theorem d_X2_remove_22 : decode cX2_remove 22 = .ok (.getfield 24, 3) := by decide +kernel
theorem d_X2_remove_25 : decode cX2_remove 25 = .ok (.arraylength, 1) := by decide +kernel
theorem d_X2_remove_26 : decode cX2_remove 26 = .ok (.if_icmp .ge 27, 3) := by decide +kernel
theorem d_X2_remove_29 : decode cX2_remove 29 = .ok (.iload_n 3, 1) := by decide +kernel
theorem d_X2_remove_30 : decode cX2_remove 30 = .ok (.ifCond .lt 23, 3) := by decide +kernel
theorem d_X2_remove_33 : decode cX2_remove 33 = .ok (.aload_n 0, 1) := by decide +kernel
theorem d_X2_remove_34 : decode cX2_remove 34 = .ok (.getfield 24, 3) := by decide +kernel
theorem d_X2_remove_37 : decode cX2_remove 37 = .ok (.iload_n 3, 1) := by decide +kernel
theorem d_X2_remove_38 : decode cX2_remove 38 = .ok (.aload_n 0, 1) := by decide +kernel
theorem d_X2_remove_39 : decode cX2_remove 39 = .ok (.getfield 24, 3) := by decide +kernel
theorem d_X2_remove_42 : decode cX2_remove 42 = .ok (.iload_n 3, 1) := by decide +kernel
theorem d_X2_remove_43 : decode cX2_remove 43 = .ok (.iconst 1, 1) := by decide +kernel
theorem d_X2_remove_44 : decode cX2_remove 44 = .ok (.iadd, 1) := by decide +kernel
theorem d_X2_remove_45 : decode cX2_remove 45 = .ok (.aaload, 1) := by decide +kernel
theorem d_X2_remove_46 : decode cX2_remove 46 = .ok (.aastore, 1) := by decide +kernel
theorem d_X2_remove_47 : decode cX2_remove 47 = .ok (.iinc 3 1, 3) := by decide +kernel
theorem d_X2_remove_50 : decode cX2_remove 50 = .ok (.goto (-42), 3) := by decide +kernel
theorem d_X2_remove_53 : decode cX2_remove 53 = .ok (.aload_n 2, 1) := by decide +kernel
theorem d_X2_remove_54 : decode cX2_remove 54 = .ok (.ifnull 42, 3) := by decide +kernel
theorem d_X2_remove_57 : decode cX2_remove 57 = .ok (.aload_n 0, 1) := by decide +kernel
theorem d_X2_remove_58 : decode cX2_remove 58 = .ok (.getfield 39, 3) := by decide +kernel
theorem d_X2_remove_61 : decode cX2_remove 61 = .ok (.ifCond .le 35, 3) := by decide +kernel
theorem d_X2_remove_64 : decode cX2_remove 64 = .ok (.aload_n 0, 1) := by decide +kernel
theorem d_X2_remove_65 : decode cX2_remove 65 = .ok (.getfield 39, 3) := by decide +kernel
theorem d_X2_remove_68 : decode cX2_remove 68 = .ok (.aload_n 0, 1) := by decide +kernel
theorem d_X2_remove_69 : decode cX2_remove 69 = .ok (.getfield 24, 3) := by decide +kernel
theorem d_X2_remove_72 : decode cX2_remove 72 = .ok (.arraylength, 1) := by decide +kernel
theorem d_X2_remove_73 : decode cX2_remove 73 = .ok (.if_icmp .gt 23, 3) := by decide +kernel
theorem d_X2_remove_76 : decode cX2_remove 76 = .ok (.aload_n 0, 1) := by decide +kernel
theorem d_X2_remove_77 : decode cX2_remove 77 = .ok (.dup, 1) := by decide +kernel
theorem d_X2_remove_78 : decode cX2_remove 78 = .ok (.getfield 39, 3) := by decide +kernel
theorem d_X2_remove_81 : decode cX2_remove 81 = .ok (.iconst 1, 1) := by decide +kernel
theorem d_X2_remove_82 : decode cX2_remove 82 = .ok (.isub, 1) := by decide +kernel
theorem d_X2_remove_83 : decode cX2_remove 83 = .ok (.putfield 39, 3) := by decide +kernel
theorem d_X2_remove_86 : decode cX2_remove 86 = .ok (.aload_n 0, 1) := by decide +kernel
theorem d_X2_remove_87 : decode cX2_remove 87 = .ok (.getfield 24, 3) := by decide +kernel
theorem d_X2_remove_90 : decode cX2_remove 90 = .ok (.aload_n 0, 1) := by decide +kernel
theorem d_X2_remove_91 : decode cX2_remove 91 = .ok (.getfield 39, 3) := by decide +kernel
theorem d_X2_remove_94 : decode cX2_remove 94 = .ok (.aload_n 2, 1) := by decide +kernel
theorem d_X2_remove_95 : decode cX2_remove 95 = .ok (.aastore, 1) := by decide +kernel
theorem d_X2_remove_96 : decode cX2_remove 96 = .ok (.return_, 1) := by decide +kernel
def f_X2_remove_96 (S : Mem) : Option (Unit × Mem) := (some ((), S))
set_option maxRecDepth 20000 in
theorem t_X2_remove_96 {X : MC} {Γ : GG} (C : CX X Γ cX2_remove 4 "TickPools$Market" 1 21) (hr : X.2.2.2.2.2.2.2.2.1.sig.returnType = none) {q : Unit × Mem} (S : Mem) (hf : f_X2_remove_96 S = some q) : ZZ X Γ 4 (QQ X Γ none q.2) S 96 [] [] := by
  unfold f_X2_remove_96 at hf
  exact r_v C hr d_X2_remove_96 hf
def f_X2_remove_53 (v0 : Nat) (v2 : Nat) (S : Mem) : Option (Unit × Mem) := (if v2 = 0 then (f_X2_remove_96  S) else (if kd v0 = (1, 9) then (if (gI S v0 3) ≤ 0 then (f_X2_remove_96  S) else (if 12 < (gI S v0 3) then (f_X2_remove_96  S) else (if inb (gI (sI S v0 3 ((gI S v0 3) - 1)) v0 3) 12 = true then (if kd v2 = (6, 8) then (f_X2_remove_96  (sR (sI S v0 3 ((gI S v0 3) - 1)) (v0 + 3) (((gI (sI S v0 3 ((gI S v0 3) - 1)) v0 3) : Int32).toNatClampNeg) v2)) else none) else none))) else none))
set_option maxRecDepth 20000 in
theorem t_X2_remove_53 {X : MC} {Γ : GG} (C : CX X Γ cX2_remove 4 "TickPools$Market" 1 21) (hr : X.2.2.2.2.2.2.2.2.1.sig.returnType = none) {q : Unit × Mem} (v0 : Nat) (v2 : Nat) (S : Mem) (hf : f_X2_remove_53 v0 v2 S = some q) : ZZ X Γ 4 (QQ X Γ none q.2) S 53 [(0, aR v0), (2, aR v2)] [] := by
  unfold f_X2_remove_53 at hf
  refine z_aload_n (j := 1) C d_X2_remove_53 rfl ?_
  refine z_ifnull (tgt := 96) C d_X2_remove_54 (by decide) hf (fun c54 hf => ?_) (fun c54 hf => ?_)
  · exact z_sub [] rfl (t_X2_remove_96 C hr  _ hf)
  · refine z_aload_n (j := 0) C d_X2_remove_57 rfl ?_
    obtain ⟨hg58_0, hf⟩ := gd hf
    refine zg_X2_stakes C hg58_0 tw_200 d_X2_remove_58 ?_
    refine z_if_le (tgt := 96) C d_X2_remove_61 (by decide) hf (fun c61 hf => ?_) (fun c61 hf => ?_)
    · exact z_sub [] rfl (t_X2_remove_96 C hr  _ hf)
    · refine z_aload_n (j := 0) C d_X2_remove_64 rfl ?_
      refine zg_X2_stakes C hg58_0 tw_200 d_X2_remove_65 ?_
      refine z_aload_n (j := 0) C d_X2_remove_68 rfl ?_
      refine zg_X2_stakeRow C hg58_0 tw_210 d_X2_remove_69 ?_
      refine z_alen (v := 12) C (kdM3 hg58_0) (by decide) (by decide) d_X2_remove_72 ?_
      refine z_icmp_gt (tgt := 96) C d_X2_remove_73 (by decide) hf (fun c73 hf => ?_) (fun c73 hf => ?_)
      · exact z_sub [] rfl (t_X2_remove_96 C hr  _ hf)
      · refine z_aload_n (j := 0) C d_X2_remove_76 rfl ?_
        refine z_dup C d_X2_remove_77 rfl ?_
        refine zg_X2_stakes C hg58_0 tw_200 d_X2_remove_78 ?_
        refine z_iconst (v := 1) C d_X2_remove_81 (by decide) ?_
        refine z_isub C d_X2_remove_82 ?_
        refine zp_X2_stakes C hg58_0 tw_200 d_X2_remove_83 ?_
        refine z_aload_n (j := 0) C d_X2_remove_86 rfl ?_
        refine zg_X2_stakeRow C hg58_0 tw_210 d_X2_remove_87 ?_
        refine z_aload_n (j := 0) C d_X2_remove_90 rfl ?_
        refine zg_X2_stakes C hg58_0 tw_200 d_X2_remove_91 ?_
        refine z_aload_n (j := 1) C d_X2_remove_94 rfl ?_
        obtain ⟨hi95_0, hf⟩ := gd hf
        obtain ⟨hg95_1, hf⟩ := gd hf
        refine z_astS C (kdM3 hg58_0) hi95_0 hg95_1 d_X2_remove_95 ?_
        exact z_sub [] rfl (t_X2_remove_96 C hr  _ hf)
def f_X2_remove_8B (k8 : Nat → Nat → Int32 → Mem → Option (Unit × Mem)) (v0 : Nat) (v2 : Nat) (v3 : Int32) (S : Mem) : Option (Unit × Mem) := (if kd v0 = (1, 9) then (if (gI S v0 3) ≤ (v3 + 1) then (f_X2_remove_53  v0 v2 S) else (if 12 ≤ (v3 + 1) then (f_X2_remove_53  v0 v2 S) else (if v3 < 0 then (f_X2_remove_53  v0 v2 S) else (if inb (v3 + 1) 12 = true then (if inb v3 12 = true then (if kd (gR S (v0 + 3) (((v3 + 1) : Int32).toNatClampNeg)) = (6, 8) then (k8 v0 v2 (v3 + 1) (sR S (v0 + 3) ((v3 : Int32).toNatClampNeg) (gR S (v0 + 3) (((v3 + 1) : Int32).toNatClampNeg)))) else none) else none) else none)))) else none)
set_option maxRecDepth 20000 in
theorem t_X2_remove_8B {X : MC} {Γ : GG} (C : CX X Γ cX2_remove 4 "TickPools$Market" 1 21) (hr : X.2.2.2.2.2.2.2.2.1.sig.returnType = none) {k8 : Nat → Nat → Int32 → Mem → Option (Unit × Mem)} {q : Unit × Mem} (hk8 : ∀ (v0 : Nat) (v2 : Nat) (v3 : Int32) (S : Mem), k8 v0 v2 v3 S = some q → ZZ X Γ 4 (QQ X Γ none q.2) S 8 [(0, aR v0), (2, aR v2), (3, aI v3)] []) (v0 : Nat) (v2 : Nat) (v3 : Int32) (S : Mem) (hf : f_X2_remove_8B k8 v0 v2 v3 S = some q) : ZZ X Γ 4 (QQ X Γ none q.2) S 8 [(0, aR v0), (2, aR v2), (3, aI v3)] [] := by
  unfold f_X2_remove_8B at hf
  refine z_iload_n (j := 2) C d_X2_remove_8 rfl ?_
  refine z_iconst (v := 1) C d_X2_remove_9 (by decide) ?_
  refine z_iadd C d_X2_remove_10 ?_
  refine z_aload_n (j := 0) C d_X2_remove_11 rfl ?_
  obtain ⟨hg12_0, hf⟩ := gd hf
  refine zg_X2_stakes C hg12_0 tw_200 d_X2_remove_12 ?_
  refine z_icmp_ge (tgt := 53) C d_X2_remove_15 (by decide) hf (fun c15 hf => ?_) (fun c15 hf => ?_)
  · exact z_sub [0, 1] rfl (t_X2_remove_53 C hr  _ _ _ hf)
  · refine z_iload_n (j := 2) C d_X2_remove_18 rfl ?_
    refine z_iconst (v := 1) C d_X2_remove_19 (by decide) ?_
    refine z_iadd C d_X2_remove_20 ?_
    refine z_aload_n (j := 0) C d_X2_remove_21 rfl ?_
    refine zg_X2_stakeRow C hg12_0 tw_210 d_X2_remove_22 ?_
    refine z_alen (v := 12) C (kdM3 hg12_0) (by decide) (by decide) d_X2_remove_25 ?_
    refine z_icmp_ge (tgt := 53) C d_X2_remove_26 (by decide) hf (fun c26 hf => ?_) (fun c26 hf => ?_)
    · exact z_sub [0, 1] rfl (t_X2_remove_53 C hr  _ _ _ hf)
    · refine z_iload_n (j := 2) C d_X2_remove_29 rfl ?_
      refine z_if_lt (tgt := 53) C d_X2_remove_30 (by decide) hf (fun c30 hf => ?_) (fun c30 hf => ?_)
      · exact z_sub [0, 1] rfl (t_X2_remove_53 C hr  _ _ _ hf)
      · refine z_aload_n (j := 0) C d_X2_remove_33 rfl ?_
        refine zg_X2_stakeRow C hg12_0 tw_210 d_X2_remove_34 ?_
        refine z_iload_n (j := 2) C d_X2_remove_37 rfl ?_
        refine z_aload_n (j := 0) C d_X2_remove_38 rfl ?_
        refine zg_X2_stakeRow C hg12_0 tw_210 d_X2_remove_39 ?_
        refine z_iload_n (j := 2) C d_X2_remove_42 rfl ?_
        refine z_iconst (v := 1) C d_X2_remove_43 (by decide) ?_
        refine z_iadd C d_X2_remove_44 ?_
        obtain ⟨hi45_0, hf⟩ := gd hf
        refine z_aldS C (kdM3 hg12_0) hi45_0 d_X2_remove_45 ?_
        obtain ⟨hi46_1, hf⟩ := gd hf
        obtain ⟨hg46_1, hf⟩ := gd hf
        refine z_astS C (kdM3 hg12_0) hi46_1 hg46_1 d_X2_remove_46 ?_
        refine z_iinc (j := 2) (v := (v3 + 1)) (lv' := [(3, aI (v3 + 1)), (0, aR v0), (2, aR v2)]) C d_X2_remove_47 rfl rfl (by decide) rfl ?_
        refine z_goto (tgt := 8) C d_X2_remove_50 (by decide) ?_
        exact z_sub [1, 2, 0] rfl (hk8 _ _ _ _ hf)
def f_X2_remove_8 : Nat → Nat → Nat → Int32 → Mem → Option (Unit × Mem)
  | 0 => fun _ _ _ _ => none
  | n + 1 => f_X2_remove_8B (f_X2_remove_8 n)
theorem t_X2_remove_8 {X : MC} {Γ : GG} (C : CX X Γ cX2_remove 4 "TickPools$Market" 1 21) (hr : X.2.2.2.2.2.2.2.2.1.sig.returnType = none) {q : Unit × Mem} : ∀ (n : Nat) (v0 : Nat) (v2 : Nat) (v3 : Int32) (S : Mem) (hf : f_X2_remove_8 n v0 v2 v3 S = some q), ZZ X Γ 4 (QQ X Γ none q.2) S 8 [(0, aR v0), (2, aR v2), (3, aI v3)] []
  | 0, _, _, _, _, hf => nomatch (show (none : Option (Unit × Mem)) = some q from hf)
  | n + 1, v0, v2, v3, S, hf => t_X2_remove_8B C hr (t_X2_remove_8 C hr n) v0 v2 v3 S hf
/-- TickPools$Market.remove(I)V -/
def f_X2_remove (h0 : Nat) (p1 : Int32) (S : Mem) : Option (Unit × Mem) := (if kd h0 = (1, 9) then ((f_X2_stakeAt h0 p1 S).bind fun q2 => (f_X2_remove_8  100000 h0 q2.1 p1 q2.2)) else none)
set_option maxRecDepth 20000 in
theorem c_X2_remove {l : Launch} {Γ : GG} (hI : Inj Γ) {h0 : Nat} {p1 : Int32} {S : Mem} {q : Unit × Mem} (hf : f_X2_remove h0 p1 S = some q) : MM l Γ yX2_remove cX2_remove 4 (none) 1 21 [aR h0, aI p1] S none q.2 := by
  refine met_of hI "TickPools$Market" rfl (by decide +kernel) (Nat.le_of_ble_eq_true rfl) (fun X hX C hr => ?_)
  unfold f_X2_remove at hf
  show ZZ X Γ 4 _ S 0 [(0, aR h0), (1, aI p1)] []
  refine z_aload_n (j := 0) C d_X2_remove_0 rfl ?_
  refine z_iload_n (j := 1) C d_X2_remove_1 rfl ?_
  obtain ⟨hg2_0, hf⟩ := gd hf
  obtain ⟨q2, hF, hf⟩ := bd hf
  refine z_callV1 (rest := []) C [aI p1] hg2_0 (by decide) rfl rfl k_X2_stakeAt tw_902 ⟨by decide, by decide⟩ (Nat.le_of_ble_eq_true rfl) d_X2_remove_2 (c_X2_stakeAt C.inj hF) rfl ?_
  refine z_astore_n (lv' := [(2, aR q2.1), (0, aR h0), (1, aI p1)]) C d_X2_remove_5 (by decide) rfl ?_
  refine z_iload_n (j := 2) C d_X2_remove_6 rfl ?_
  refine z_istore_n (lv' := [(3, aI p1), (2, aR q2.1), (0, aR h0), (1, aI p1)]) C d_X2_remove_7 (by decide) rfl ?_
  exact z_sub [2, 1, 0] rfl (t_X2_remove_8 C hr  100000 _ _ _ _ hf)
theorem d_X2_withdraw_0 : decode cX2_withdraw 0 = .ok (.aload_n 0, 1) := by decide +kernel
theorem d_X2_withdraw_1 : decode cX2_withdraw 1 = .ok (.iload_n 1, 1) := by decide +kernel
theorem d_X2_withdraw_2 : decode cX2_withdraw 2 = .ok (.invokevirtual 157, 3) := by decide +kernel
theorem d_X2_withdraw_5 : decode cX2_withdraw 5 = .ok (.astore_n 3, 1) := by decide +kernel
theorem d_X2_withdraw_6 : decode cX2_withdraw 6 = .ok (.aload_n 3, 1) := by decide +kernel
theorem d_X2_withdraw_7 : decode cX2_withdraw 7 = .ok (.ifnonnull 7, 3) := by decide +kernel
theorem d_X2_withdraw_10 : decode cX2_withdraw 10 = .ok (.aconst_null, 1) := by decide +kernel
theorem d_X2_withdraw_11 : decode cX2_withdraw 11 = .ok (.goto 11, 3) := by decide +kernel
theorem d_X2_withdraw_14 : decode cX2_withdraw 14 = .ok (.aload_n 0, 1) := by decide +kernel
theorem d_X2_withdraw_15 : decode cX2_withdraw 15 = .ok (.aload_n 3, 1) := by decide +kernel
theorem d_X2_withdraw_16 : decode cX2_withdraw 16 = .ok (.getfield 86, 3) := by decide +kernel
theorem d_X2_withdraw_19 : decode cX2_withdraw 19 = .ok (.invokevirtual 102, 3) := by decide +kernel
theorem d_X2_withdraw_22 : decode cX2_withdraw 22 = .ok (.astore 4, 2) := by decide +kernel
theorem d_X2_withdraw_24 : decode cX2_withdraw 24 = .ok (.aload 4, 2) := by decide +kernel
theorem d_X2_withdraw_26 : decode cX2_withdraw 26 = .ok (.ifnonnull 4, 3) := by decide +kernel
theorem d_X2_withdraw_29 : decode cX2_withdraw 29 = .ok (.return_, 1) := by decide +kernel
theorem d_X2_withdraw_30 : decode cX2_withdraw 30 = .ok (.aload_n 3, 1) := by decide +kernel
theorem d_X2_withdraw_31 : decode cX2_withdraw 31 = .ok (.invokevirtual 144, 3) := by decide +kernel
theorem d_X2_withdraw_34 : decode cX2_withdraw 34 = .ok (.iload_n 2, 1) := by decide +kernel
theorem d_X2_withdraw_35 : decode cX2_withdraw 35 = .ok (.aload_n 3, 1) := by decide +kernel
theorem d_X2_withdraw_36 : decode cX2_withdraw 36 = .ok (.getfield 95, 3) := by decide +kernel
theorem d_X2_withdraw_39 : decode cX2_withdraw 39 = .ok (.if_icmp .lt 7, 3) := by decide +kernel
theorem d_X2_withdraw_42 : decode cX2_withdraw 42 = .ok (.iconst 1, 1) := by decide +kernel
theorem d_X2_withdraw_43 : decode cX2_withdraw 43 = .ok (.goto 4, 3) := by decide +kernel
theorem d_X2_withdraw_46 : decode cX2_withdraw 46 = .ok (.iconst 0, 1) := by decide +kernel
theorem d_X2_withdraw_47 : decode cX2_withdraw 47 = .ok (.istore 5, 2) := by decide +kernel
theorem d_X2_withdraw_49 : decode cX2_withdraw 49 = .ok (.iconst 0, 1) := by decide +kernel
theorem d_X2_withdraw_50 : decode cX2_withdraw 50 = .ok (.istore 6, 2) := by decide +kernel
theorem d_X2_withdraw_52 : decode cX2_withdraw 52 = .ok (.iload 6, 2) := by decide +kernel
theorem d_X2_withdraw_54 : decode cX2_withdraw 54 = .ok (.iconst 2, 1) := by decide +kernel
theorem d_X2_withdraw_55 : decode cX2_withdraw 55 = .ok (.if_icmp .ge 54, 3) := by decide +kernel
theorem d_X2_withdraw_58 : decode cX2_withdraw 58 = .ok (.aload_n 3, 1) := by decide +kernel
theorem d_X2_withdraw_59 : decode cX2_withdraw 59 = .ok (.aload 4, 2) := by decide +kernel
theorem d_X2_withdraw_61 : decode cX2_withdraw 61 = .ok (.iload_n 2, 1) := by decide +kernel
theorem d_X2_withdraw_62 : decode cX2_withdraw 62 = .ok (.i2l, 1) := by decide +kernel
theorem d_X2_withdraw_63 : decode cX2_withdraw 63 = .ok (.iload 6, 2) := by decide +kernel
theorem d_X2_withdraw_65 : decode cX2_withdraw 65 = .ok (.iconst 0, 1) := by decide +kernel
theorem d_X2_withdraw_66 : decode cX2_withdraw 66 = .ok (.invokevirtual 109, 3) := by decide +kernel
theorem d_X2_withdraw_69 : decode cX2_withdraw 69 = .ok (.iload 5, 2) := by decide +kernel
theorem d_X2_withdraw_71 : decode cX2_withdraw 71 = .ok (.ifCond .eq 13, 3) := by decide +kernel
theorem d_X2_withdraw_74 : decode cX2_withdraw 74 = .ok (.aload_n 3, 1) := by decide +kernel
theorem d_X2_withdraw_75 : decode cX2_withdraw 75 = .ok (.getfield 161, 3) := by decide +kernel
theorem d_X2_withdraw_78 : decode cX2_withdraw 78 = .ok (.iload 6, 2) := by decide +kernel
theorem d_X2_withdraw_80 : decode cX2_withdraw 80 = .ok (.laload, 1) := by decide +kernel
theorem d_X2_withdraw_81 : decode cX2_withdraw 81 = .ok (.goto 4, 3) := by decide +kernel
theorem d_X2_withdraw_84 : decode cX2_withdraw 84 = .ok (.lconst 0, 1) := by decide +kernel
theorem d_X2_withdraw_85 : decode cX2_withdraw 85 = .ok (.ladd, 1) := by decide +kernel
theorem d_X2_withdraw_86 : decode cX2_withdraw 86 = .ok (.lstore 7, 2) := by decide +kernel
theorem d_X2_withdraw_88 : decode cX2_withdraw 88 = .ok (.aload_n 0, 1) := by decide +kernel
theorem d_X2_withdraw_89 : decode cX2_withdraw 89 = .ok (.aload 4, 2) := by decide +kernel
theorem d_X2_withdraw_91 : decode cX2_withdraw 91 = .ok (.iload 6, 2) := by decide +kernel
theorem d_X2_withdraw_93 : decode cX2_withdraw 93 = .ok (.aload_n 3, 1) := by decide +kernel
theorem d_X2_withdraw_94 : decode cX2_withdraw 94 = .ok (.getfield 165, 3) := by decide +kernel
theorem d_X2_withdraw_97 : decode cX2_withdraw 97 = .ok (.lload 7, 2) := by decide +kernel
theorem d_X2_withdraw_99 : decode cX2_withdraw 99 = .ok (.l2i, 1) := by decide +kernel
theorem d_X2_withdraw_100 : decode cX2_withdraw 100 = .ok (.invokevirtual 147, 3) := by decide +kernel
theorem d_X2_withdraw_103 : decode cX2_withdraw 103 = .ok (.iinc 6 1, 3) := by decide +kernel
theorem d_X2_withdraw_106 : decode cX2_withdraw 106 = .ok (.goto (-54), 3) := by decide +kernel
theorem d_X2_withdraw_109 : decode cX2_withdraw 109 = .ok (.aload_n 3, 1) := by decide +kernel
theorem d_X2_withdraw_110 : decode cX2_withdraw 110 = .ok (.dup, 1) := by decide +kernel
theorem d_X2_withdraw_111 : decode cX2_withdraw 111 = .ok (.getfield 95, 3) := by decide +kernel
theorem d_X2_withdraw_114 : decode cX2_withdraw 114 = .ok (.iload_n 2, 1) := by decide +kernel
theorem d_X2_withdraw_115 : decode cX2_withdraw 115 = .ok (.isub, 1) := by decide +kernel
theorem d_X2_withdraw_116 : decode cX2_withdraw 116 = .ok (.putfield 95, 3) := by decide +kernel
theorem d_X2_withdraw_119 : decode cX2_withdraw 119 = .ok (.iload 5, 2) := by decide +kernel
theorem d_X2_withdraw_121 : decode cX2_withdraw 121 = .ok (.ifCond .eq 8, 3) := by decide +kernel
theorem d_X2_withdraw_124 : decode cX2_withdraw 124 = .ok (.aload_n 0, 1) := by decide +kernel
theorem d_X2_withdraw_125 : decode cX2_withdraw 125 = .ok (.iload_n 1, 1) := by decide +kernel
theorem d_X2_withdraw_126 : decode cX2_withdraw 126 = .ok (.invokevirtual 168, 3) := by decide +kernel
theorem d_X2_withdraw_129 : decode cX2_withdraw 129 = .ok (.return_, 1) := by decide +kernel
def f_X2_withdraw_88 (k52 : Nat → Int32 → Int32 → Nat → Nat → Int32 → Int32 → Mem → Option (Unit × Mem)) (v0 : Nat) (v1 : Int32) (v2 : Int32) (v3 : Nat) (v4 : Nat) (v5 : Int32) (v6 : Int32) (v7 : Int64) (S : Mem) : Option (Unit × Mem) := (if kd v3 = (6, 8) then (if kd v0 = (1, 9) then ((f_X2_payOut v0 v4 v6 (gI S v3 0) ((v7 : Int64).toInt32) S).bind fun q100 => (k52 v0 v1 v2 v3 v4 v5 (v6 + 1) q100.2)) else none) else none)
set_option maxRecDepth 20000 in
theorem t_X2_withdraw_88 {X : MC} {Γ : GG} (C : CX X Γ cX2_withdraw 9 "TickPools$Market" 2 63) (hr : X.2.2.2.2.2.2.2.2.1.sig.returnType = none) {k52 : Nat → Int32 → Int32 → Nat → Nat → Int32 → Int32 → Mem → Option (Unit × Mem)} {q : Unit × Mem} (hk52 : ∀ (v0 : Nat) (v1 : Int32) (v2 : Int32) (v3 : Nat) (v4 : Nat) (v5 : Int32) (v6 : Int32) (S : Mem), k52 v0 v1 v2 v3 v4 v5 v6 S = some q → ZZ X Γ 9 (QQ X Γ none q.2) S 52 [(0, aR v0), (1, aI v1), (2, aI v2), (3, aR v3), (4, aR v4), (5, aI v5), (6, aI v6)] []) (v0 : Nat) (v1 : Int32) (v2 : Int32) (v3 : Nat) (v4 : Nat) (v5 : Int32) (v6 : Int32) (v7 : Int64) (S : Mem) (hf : f_X2_withdraw_88 k52 v0 v1 v2 v3 v4 v5 v6 v7 S = some q) : ZZ X Γ 9 (QQ X Γ none q.2) S 88 [(0, aR v0), (1, aI v1), (2, aI v2), (3, aR v3), (4, aR v4), (5, aI v5), (6, aI v6), (7, aJ v7)] [] := by
  unfold f_X2_withdraw_88 at hf
  refine z_aload_n (j := 0) C d_X2_withdraw_88 rfl ?_
  refine z_aload (j := 4) C d_X2_withdraw_89 rfl ?_
  refine z_iload (j := 6) C d_X2_withdraw_91 rfl ?_
  refine z_aload_n (j := 3) C d_X2_withdraw_93 rfl ?_
  obtain ⟨hg94_0, hf⟩ := gd hf
  refine zg_X7_person C hg94_0 tw_150 d_X2_withdraw_94 ?_
  refine z_lload (j := 7) C d_X2_withdraw_97 rfl ?_
  refine z_l2i C d_X2_withdraw_99 ?_
  obtain ⟨hg100_1, hf⟩ := gd hf
  obtain ⟨q100, hF, hf⟩ := bd hf
  refine z_callV0 (rest := []) C [aR v4, aI v6, aI (gI S v3 0), aI ((v7 : Int64).toInt32)] hg100_1 (by decide) rfl rfl k_X2_payOut tw_921 ⟨by decide, by decide⟩ (Nat.le_of_ble_eq_true rfl) d_X2_withdraw_100 (c_X2_payOut C.inj hF) rfl ?_
  refine z_iinc (j := 6) (v := (v6 + 1)) (lv' := [(6, aI (v6 + 1)), (0, aR v0), (1, aI v1), (2, aI v2), (3, aR v3), (4, aR v4), (5, aI v5), (7, aJ v7)]) C d_X2_withdraw_103 rfl rfl (by decide) rfl ?_
  refine z_goto (tgt := 52) C d_X2_withdraw_106 (by decide) ?_
  exact z_sub [1, 2, 3, 4, 5, 6, 0] rfl (hk52 _ _ _ _ _ _ _ _ hf)
def f_X2_withdraw_85 (k52 : Nat → Int32 → Int32 → Nat → Nat → Int32 → Int32 → Mem → Option (Unit × Mem)) (v0 : Nat) (v1 : Int32) (v2 : Int32) (v3 : Nat) (v4 : Nat) (v5 : Int32) (v6 : Int32) (s0 : Int64) (s1 : Int64) (S : Mem) : Option (Unit × Mem) := (f_X2_withdraw_88 k52 v0 v1 v2 v3 v4 v5 v6 (s1 + s0) S)
set_option maxRecDepth 20000 in
theorem t_X2_withdraw_85 {X : MC} {Γ : GG} (C : CX X Γ cX2_withdraw 9 "TickPools$Market" 2 63) (hr : X.2.2.2.2.2.2.2.2.1.sig.returnType = none) {k52 : Nat → Int32 → Int32 → Nat → Nat → Int32 → Int32 → Mem → Option (Unit × Mem)} {q : Unit × Mem} (hk52 : ∀ (v0 : Nat) (v1 : Int32) (v2 : Int32) (v3 : Nat) (v4 : Nat) (v5 : Int32) (v6 : Int32) (S : Mem), k52 v0 v1 v2 v3 v4 v5 v6 S = some q → ZZ X Γ 9 (QQ X Γ none q.2) S 52 [(0, aR v0), (1, aI v1), (2, aI v2), (3, aR v3), (4, aR v4), (5, aI v5), (6, aI v6)] []) (v0 : Nat) (v1 : Int32) (v2 : Int32) (v3 : Nat) (v4 : Nat) (v5 : Int32) (v6 : Int32) (s0 : Int64) (s1 : Int64) (S : Mem) (hf : f_X2_withdraw_85 k52 v0 v1 v2 v3 v4 v5 v6 s0 s1 S = some q) : ZZ X Γ 9 (QQ X Γ none q.2) S 85 [(0, aR v0), (1, aI v1), (2, aI v2), (3, aR v3), (4, aR v4), (5, aI v5), (6, aI v6)] [aJ s0, aJ s1] := by
  unfold f_X2_withdraw_85 at hf
  refine z_ladd C d_X2_withdraw_85 ?_
  refine z_lstore (lv' := [(7, aJ (s1 + s0)), (0, aR v0), (1, aI v1), (2, aI v2), (3, aR v3), (4, aR v4), (5, aI v5), (6, aI v6)]) C d_X2_withdraw_86 (by decide) rfl ?_
  exact z_sub [1, 2, 3, 4, 5, 6, 7, 0] rfl (t_X2_withdraw_88 C hr hk52 _ _ _ _ _ _ _ _ _ hf)
def f_X2_withdraw_129 (S : Mem) : Option (Unit × Mem) := (some ((), S))
set_option maxRecDepth 20000 in
theorem t_X2_withdraw_129 {X : MC} {Γ : GG} (C : CX X Γ cX2_withdraw 9 "TickPools$Market" 2 63) (hr : X.2.2.2.2.2.2.2.2.1.sig.returnType = none) {q : Unit × Mem} (S : Mem) (hf : f_X2_withdraw_129 S = some q) : ZZ X Γ 9 (QQ X Γ none q.2) S 129 [] [] := by
  unfold f_X2_withdraw_129 at hf
  exact r_v C hr d_X2_withdraw_129 hf
def f_X2_withdraw_52B (k52 : Nat → Int32 → Int32 → Nat → Nat → Int32 → Int32 → Mem → Option (Unit × Mem)) (v0 : Nat) (v1 : Int32) (v2 : Int32) (v3 : Nat) (v4 : Nat) (v5 : Int32) (v6 : Int32) (S : Mem) : Option (Unit × Mem) := (if 2 ≤ v6 then (if kd v3 = (6, 8) then (if v5 = 0 then (f_X2_withdraw_129  (sI S v3 5 ((gI S v3 5) - v2))) else (if kd v0 = (1, 9) then ((f_X2_remove v0 v1 (sI S v3 5 ((gI S v3 5) - v2))).bind fun q126 => (f_X2_withdraw_129  q126.2)) else none)) else none) else (if kd v3 = (6, 8) then ((f_X7_liesIn v3 v4 (v2.toInt64) v6 0 S).bind fun q66 => (if v5 = 0 then (f_X2_withdraw_85 k52 v0 v1 v2 v3 v4 v5 v6 0 q66.1 q66.2) else (if inb v6 2 = true then (f_X2_withdraw_85 k52 v0 v1 v2 v3 v4 v5 v6 (gL q66.2 (v3 + 2) ((v6 : Int32).toNatClampNeg)) q66.1 q66.2) else none))) else none))
set_option maxRecDepth 20000 in
theorem t_X2_withdraw_52B {X : MC} {Γ : GG} (C : CX X Γ cX2_withdraw 9 "TickPools$Market" 2 63) (hr : X.2.2.2.2.2.2.2.2.1.sig.returnType = none) {k52 : Nat → Int32 → Int32 → Nat → Nat → Int32 → Int32 → Mem → Option (Unit × Mem)} {q : Unit × Mem} (hk52 : ∀ (v0 : Nat) (v1 : Int32) (v2 : Int32) (v3 : Nat) (v4 : Nat) (v5 : Int32) (v6 : Int32) (S : Mem), k52 v0 v1 v2 v3 v4 v5 v6 S = some q → ZZ X Γ 9 (QQ X Γ none q.2) S 52 [(0, aR v0), (1, aI v1), (2, aI v2), (3, aR v3), (4, aR v4), (5, aI v5), (6, aI v6)] []) (v0 : Nat) (v1 : Int32) (v2 : Int32) (v3 : Nat) (v4 : Nat) (v5 : Int32) (v6 : Int32) (S : Mem) (hf : f_X2_withdraw_52B k52 v0 v1 v2 v3 v4 v5 v6 S = some q) : ZZ X Γ 9 (QQ X Γ none q.2) S 52 [(0, aR v0), (1, aI v1), (2, aI v2), (3, aR v3), (4, aR v4), (5, aI v5), (6, aI v6)] [] := by
  unfold f_X2_withdraw_52B at hf
  refine z_iload (j := 6) C d_X2_withdraw_52 rfl ?_
  refine z_iconst (v := 2) C d_X2_withdraw_54 (by decide) ?_
  refine z_icmp_ge (tgt := 109) C d_X2_withdraw_55 (by decide) hf (fun c55 hf => ?_) (fun c55 hf => ?_)
  · refine z_aload_n (j := 3) C d_X2_withdraw_109 rfl ?_
    refine z_dup C d_X2_withdraw_110 rfl ?_
    obtain ⟨hg111_0, hf⟩ := gd hf
    refine zg_X7_liquidity C hg111_0 tw_166 d_X2_withdraw_111 ?_
    refine z_iload_n (j := 2) C d_X2_withdraw_114 rfl ?_
    refine z_isub C d_X2_withdraw_115 ?_
    refine zp_X7_liquidity C hg111_0 tw_166 d_X2_withdraw_116 ?_
    refine z_iload (j := 5) C d_X2_withdraw_119 rfl ?_
    refine z_if_eq (tgt := 129) C d_X2_withdraw_121 (by decide) hf (fun c121 hf => ?_) (fun c121 hf => ?_)
    · exact z_sub [] rfl (t_X2_withdraw_129 C hr  _ hf)
    · refine z_aload_n (j := 0) C d_X2_withdraw_124 rfl ?_
      refine z_iload_n (j := 1) C d_X2_withdraw_125 rfl ?_
      obtain ⟨hg126_1, hf⟩ := gd hf
      obtain ⟨q126, hF, hf⟩ := bd hf
      refine z_callV0 (rest := []) C [aI v1] hg126_1 (by decide) rfl rfl k_X2_remove tw_922 ⟨by decide, by decide⟩ (Nat.le_of_ble_eq_true rfl) d_X2_withdraw_126 (c_X2_remove C.inj hF) rfl ?_
      exact z_sub [] rfl (t_X2_withdraw_129 C hr  _ hf)
  · refine z_aload_n (j := 3) C d_X2_withdraw_58 rfl ?_
    refine z_aload (j := 4) C d_X2_withdraw_59 rfl ?_
    refine z_iload_n (j := 2) C d_X2_withdraw_61 rfl ?_
    refine z_i2l C d_X2_withdraw_62 ?_
    refine z_iload (j := 6) C d_X2_withdraw_63 rfl ?_
    refine z_iconst (v := 0) C d_X2_withdraw_65 (by decide) ?_
    obtain ⟨hg66_0, hf⟩ := gd hf
    obtain ⟨q66, hF, hf⟩ := bd hf
    refine z_callV1 (rest := []) C [aR v4, aJ (v2.toInt64), aI v6, aI 0] hg66_0 (by decide) rfl rfl k_X7_liesIn tw_915 ⟨by decide, by decide⟩ (Nat.le_of_ble_eq_true rfl) d_X2_withdraw_66 (c_X7_liesIn C.inj hF) rfl ?_
    refine z_iload (j := 5) C d_X2_withdraw_69 rfl ?_
    refine z_if_eq (tgt := 84) C d_X2_withdraw_71 (by decide) hf (fun c71 hf => ?_) (fun c71 hf => ?_)
    · refine z_lconst (v := 0) C d_X2_withdraw_84 (by decide) ?_
      exact z_sub [0, 1, 2, 3, 4, 5, 6] rfl (t_X2_withdraw_85 C hr hk52 _ _ _ _ _ _ _ _ _ _ hf)
    · refine z_aload_n (j := 3) C d_X2_withdraw_74 rfl ?_
      refine zg_X7_debt C hg66_0 tw_171 d_X2_withdraw_75 ?_
      refine z_iload (j := 6) C d_X2_withdraw_78 rfl ?_
      obtain ⟨hi80_0, hf⟩ := gd hf
      refine z_lald C (kdS2 hg66_0) hi80_0 d_X2_withdraw_80 ?_
      refine z_goto (tgt := 85) C d_X2_withdraw_81 (by decide) ?_
      exact z_sub [0, 1, 2, 3, 4, 5, 6] rfl (t_X2_withdraw_85 C hr hk52 _ _ _ _ _ _ _ _ _ _ hf)
def f_X2_withdraw_52 : Nat → Nat → Int32 → Int32 → Nat → Nat → Int32 → Int32 → Mem → Option (Unit × Mem)
  | 0 => fun _ _ _ _ _ _ _ _ => none
  | n + 1 => f_X2_withdraw_52B (f_X2_withdraw_52 n)
theorem t_X2_withdraw_52 {X : MC} {Γ : GG} (C : CX X Γ cX2_withdraw 9 "TickPools$Market" 2 63) (hr : X.2.2.2.2.2.2.2.2.1.sig.returnType = none) {q : Unit × Mem} : ∀ (n : Nat) (v0 : Nat) (v1 : Int32) (v2 : Int32) (v3 : Nat) (v4 : Nat) (v5 : Int32) (v6 : Int32) (S : Mem) (hf : f_X2_withdraw_52 n v0 v1 v2 v3 v4 v5 v6 S = some q), ZZ X Γ 9 (QQ X Γ none q.2) S 52 [(0, aR v0), (1, aI v1), (2, aI v2), (3, aR v3), (4, aR v4), (5, aI v5), (6, aI v6)] []
  | 0, _, _, _, _, _, _, _, _, hf => nomatch (show (none : Option (Unit × Mem)) = some q from hf)
  | n + 1, v0, v1, v2, v3, v4, v5, v6, S, hf => t_X2_withdraw_52B C hr (t_X2_withdraw_52 C hr n) v0 v1 v2 v3 v4 v5 v6 S hf
def f_X2_withdraw_47 (v0 : Nat) (v1 : Int32) (v2 : Int32) (v3 : Nat) (v4 : Nat) (s0 : Int32) (S : Mem) : Option (Unit × Mem) := (f_X2_withdraw_52  100000 v0 v1 v2 v3 v4 s0 0 S)
set_option maxRecDepth 20000 in
theorem t_X2_withdraw_47 {X : MC} {Γ : GG} (C : CX X Γ cX2_withdraw 9 "TickPools$Market" 2 63) (hr : X.2.2.2.2.2.2.2.2.1.sig.returnType = none) {q : Unit × Mem} (v0 : Nat) (v1 : Int32) (v2 : Int32) (v3 : Nat) (v4 : Nat) (s0 : Int32) (S : Mem) (hf : f_X2_withdraw_47 v0 v1 v2 v3 v4 s0 S = some q) : ZZ X Γ 9 (QQ X Γ none q.2) S 47 [(0, aR v0), (1, aI v1), (2, aI v2), (3, aR v3), (4, aR v4)] [aI s0] := by
  unfold f_X2_withdraw_47 at hf
  refine z_istore (lv' := [(5, aI s0), (0, aR v0), (1, aI v1), (2, aI v2), (3, aR v3), (4, aR v4)]) C d_X2_withdraw_47 (by decide) rfl ?_
  refine z_iconst (v := 0) C d_X2_withdraw_49 (by decide) ?_
  refine z_istore (lv' := [(6, aI 0), (5, aI s0), (0, aR v0), (1, aI v1), (2, aI v2), (3, aR v3), (4, aR v4)]) C d_X2_withdraw_50 (by decide) rfl ?_
  exact z_sub [2, 3, 4, 5, 6, 1, 0] rfl (t_X2_withdraw_52 C hr  100000 _ _ _ _ _ _ _ _ hf)
def f_X2_withdraw_22 (v0 : Nat) (v1 : Int32) (v2 : Int32) (v3 : Nat) (s0 : Nat) (S : Mem) : Option (Unit × Mem) := (if s0 = 0 then (some ((), S)) else (if kd v3 = (6, 8) then ((f_X7_settle v3 S).bind fun q31 => (if v2 < (gI q31.2 v3 5) then (f_X2_withdraw_47  v0 v1 v2 v3 s0 0 q31.2) else (f_X2_withdraw_47  v0 v1 v2 v3 s0 1 q31.2))) else none))
set_option maxRecDepth 20000 in
theorem t_X2_withdraw_22 {X : MC} {Γ : GG} (C : CX X Γ cX2_withdraw 9 "TickPools$Market" 2 63) (hr : X.2.2.2.2.2.2.2.2.1.sig.returnType = none) {q : Unit × Mem} (v0 : Nat) (v1 : Int32) (v2 : Int32) (v3 : Nat) (s0 : Nat) (S : Mem) (hf : f_X2_withdraw_22 v0 v1 v2 v3 s0 S = some q) : ZZ X Γ 9 (QQ X Γ none q.2) S 22 [(0, aR v0), (1, aI v1), (2, aI v2), (3, aR v3)] [aR s0] := by
  unfold f_X2_withdraw_22 at hf
  refine z_astore (lv' := [(4, aR s0), (0, aR v0), (1, aI v1), (2, aI v2), (3, aR v3)]) C d_X2_withdraw_22 (by decide) rfl ?_
  refine z_aload (j := 0) C d_X2_withdraw_24 rfl ?_
  refine z_ifnonnull (tgt := 30) C d_X2_withdraw_26 (by decide) hf (fun c26 hf => ?_) (fun c26 hf => ?_)
  · refine z_aload_n (j := 4) C d_X2_withdraw_30 rfl ?_
    obtain ⟨hg31_0, hf⟩ := gd hf
    obtain ⟨q31, hF, hf⟩ := bd hf
    refine z_callV0 (rest := []) C [] hg31_0 (by decide) rfl rfl k_X7_settle tw_906 ⟨by decide, by decide⟩ (Nat.le_of_ble_eq_true rfl) d_X2_withdraw_31 (c_X7_settle C.inj hF) rfl ?_
    refine z_iload_n (j := 3) C d_X2_withdraw_34 rfl ?_
    refine z_aload_n (j := 4) C d_X2_withdraw_35 rfl ?_
    refine zg_X7_liquidity C hg31_0 tw_166 d_X2_withdraw_36 ?_
    refine z_icmp_lt (tgt := 46) C d_X2_withdraw_39 (by decide) hf (fun c39 hf => ?_) (fun c39 hf => ?_)
    · refine z_iconst (v := 0) C d_X2_withdraw_46 (by decide) ?_
      exact z_sub [1, 2, 3, 4, 0] rfl (t_X2_withdraw_47 C hr  _ _ _ _ _ _ _ hf)
    · refine z_iconst (v := 1) C d_X2_withdraw_42 (by decide) ?_
      refine z_goto (tgt := 47) C d_X2_withdraw_43 (by decide) ?_
      exact z_sub [1, 2, 3, 4, 0] rfl (t_X2_withdraw_47 C hr  _ _ _ _ _ _ _ hf)
  · exact r_v C hr d_X2_withdraw_29 hf
/-- TickPools$Market.withdraw(II)V -/
def f_X2_withdraw (h0 : Nat) (p1 : Int32) (p2 : Int32) (S : Mem) : Option (Unit × Mem) := (if kd h0 = (1, 9) then ((f_X2_stakeAt h0 p1 S).bind fun q2 => (if q2.1 = 0 then (f_X2_withdraw_22  h0 p1 p2 q2.1 0 q2.2) else (if kd q2.1 = (6, 8) then ((f_X2_poolAt h0 (gI q2.2 q2.1 1) q2.2).bind fun q19 => (f_X2_withdraw_22  h0 p1 p2 q2.1 q19.1 q19.2)) else none))) else none)
set_option maxRecDepth 20000 in
theorem c_X2_withdraw {l : Launch} {Γ : GG} (hI : Inj Γ) {h0 : Nat} {p1 : Int32} {p2 : Int32} {S : Mem} {q : Unit × Mem} (hf : f_X2_withdraw h0 p1 p2 S = some q) : MM l Γ yX2_withdraw cX2_withdraw 9 (none) 2 63 [aR h0, aI p1, aI p2] S none q.2 := by
  refine met_of hI "TickPools$Market" rfl (by decide +kernel) (Nat.le_of_ble_eq_true rfl) (fun X hX C hr => ?_)
  unfold f_X2_withdraw at hf
  show ZZ X Γ 9 _ S 0 [(0, aR h0), (1, aI p1), (2, aI p2)] []
  refine z_aload_n (j := 0) C d_X2_withdraw_0 rfl ?_
  refine z_iload_n (j := 1) C d_X2_withdraw_1 rfl ?_
  obtain ⟨hg2_0, hf⟩ := gd hf
  obtain ⟨q2, hF, hf⟩ := bd hf
  refine z_callV1 (rest := []) C [aI p1] hg2_0 (by decide) rfl rfl k_X2_stakeAt tw_902 ⟨by decide, by decide⟩ (Nat.le_of_ble_eq_true rfl) d_X2_withdraw_2 (c_X2_stakeAt C.inj hF) rfl ?_
  refine z_astore_n (lv' := [(3, aR q2.1), (0, aR h0), (1, aI p1), (2, aI p2)]) C d_X2_withdraw_5 (by decide) rfl ?_
  refine z_aload_n (j := 0) C d_X2_withdraw_6 rfl ?_
  refine z_ifnonnull (tgt := 14) C d_X2_withdraw_7 (by decide) hf (fun c7 hf => ?_) (fun c7 hf => ?_)
  · refine z_aload_n (j := 1) C d_X2_withdraw_14 rfl ?_
    refine z_aload_n (j := 0) C d_X2_withdraw_15 rfl ?_
    obtain ⟨hg16_1, hf⟩ := gd hf
    refine zg_X7_pool C hg16_1 tw_153 d_X2_withdraw_16 ?_
    obtain ⟨q19, hF, hf⟩ := bd hf
    refine z_callV1 (rest := []) C [aI (gI q2.2 q2.1 1)] hg2_0 (by decide) rfl rfl k_X2_poolAt tw_810 ⟨by decide, by decide⟩ (Nat.le_of_ble_eq_true rfl) d_X2_withdraw_19 (c_X2_poolAt C.inj hF) rfl ?_
    exact z_sub [1, 2, 3, 0] rfl (t_X2_withdraw_22 C hr  _ _ _ _ _ _ hf)
  · refine z_null C d_X2_withdraw_10 ?_
    refine z_goto (tgt := 22) C d_X2_withdraw_11 (by decide) ?_
    exact z_sub [1, 2, 3, 0] rfl (t_X2_withdraw_22 C hr  _ _ _ _ _ _ hf)
theorem d_X2_dropAt_0 : decode cX2_dropAt 0 = .ok (.aload_n 0, 1) := by decide +kernel
theorem d_X2_dropAt_1 : decode cX2_dropAt 1 = .ok (.getfield 39, 3) := by decide +kernel
theorem d_X2_dropAt_4 : decode cX2_dropAt 4 = .ok (.iconst 1, 1) := by decide +kernel
theorem d_X2_dropAt_5 : decode cX2_dropAt 5 = .ok (.isub, 1) := by decide +kernel
theorem d_X2_dropAt_6 : decode cX2_dropAt 6 = .ok (.istore 4, 2) := by decide +kernel
theorem d_X2_dropAt_8 : decode cX2_dropAt 8 = .ok (.iload 4, 2) := by decide +kernel
theorem d_X2_dropAt_10 : decode cX2_dropAt 10 = .ok (.ifCond .lt 108, 3) := by decide +kernel
theorem d_X2_dropAt_13 : decode cX2_dropAt 13 = .ok (.iload 4, 2) := by decide +kernel
theorem d_X2_dropAt_15 : decode cX2_dropAt 15 = .ok (.aload_n 0, 1) := by decide +kernel
theorem d_X2_dropAt_16 : decode cX2_dropAt 16 = .ok (.getfield 24, 3) := by decide +kernel
theorem d_X2_dropAt_19 : decode cX2_dropAt 19 = .ok (.arraylength, 1) := by decide +kernel
theorem d_X2_dropAt_20 : decode cX2_dropAt 20 = .ok (.if_icmp .ge 98, 3) := by decide +kernel
theorem d_X2_dropAt_23 : decode cX2_dropAt 23 = .ok (.aload_n 0, 1) := by decide +kernel
theorem d_X2_dropAt_24 : decode cX2_dropAt 24 = .ok (.getfield 24, 3) := by decide +kernel
theorem d_X2_dropAt_27 : decode cX2_dropAt 27 = .ok (.iload 4, 2) := by decide +kernel
theorem d_X2_dropAt_29 : decode cX2_dropAt 29 = .ok (.aaload, 1) := by decide +kernel
theorem d_X2_dropAt_30 : decode cX2_dropAt 30 = .ok (.astore 5, 2) := by decide +kernel
theorem d_X2_dropAt_32 : decode cX2_dropAt 32 = .ok (.iload_n 2, 1) := by decide +kernel
theorem d_X2_dropAt_33 : decode cX2_dropAt 33 = .ok (.ifCond .ne 29, 3) := by decide +kernel
theorem d_X2_dropAt_36 : decode cX2_dropAt 36 = .ok (.aload 5, 2) := by decide +kernel
theorem d_X2_dropAt_38 : decode cX2_dropAt 38 = .ok (.getfield 172, 3) := by decide +kernel
theorem d_X2_dropAt_41 : decode cX2_dropAt 41 = .ok (.iconst 2, 1) := by decide +kernel
theorem d_X2_dropAt_42 : decode cX2_dropAt 42 = .ok (.if_icmp .ne 16, 3) := by decide +kernel
theorem d_X2_dropAt_45 : decode cX2_dropAt 45 = .ok (.aload 5, 2) := by decide +kernel
theorem d_X2_dropAt_47 : decode cX2_dropAt 47 = .ok (.getfield 89, 3) := by decide +kernel
theorem d_X2_dropAt_50 : decode cX2_dropAt 50 = .ok (.iload_n 3, 1) := by decide +kernel
theorem d_X2_dropAt_51 : decode cX2_dropAt 51 = .ok (.if_icmp .ne 7, 3) := by decide +kernel
theorem d_X2_dropAt_54 : decode cX2_dropAt 54 = .ok (.iconst 1, 1) := by decide +kernel
theorem d_X2_dropAt_55 : decode cX2_dropAt 55 = .ok (.goto 30, 3) := by decide +kernel
theorem d_X2_dropAt_58 : decode cX2_dropAt 58 = .ok (.iconst 0, 1) := by decide +kernel
theorem d_X2_dropAt_59 : decode cX2_dropAt 59 = .ok (.goto 26, 3) := by decide +kernel
theorem d_X2_dropAt_62 : decode cX2_dropAt 62 = .ok (.aload 5, 2) := by decide +kernel
theorem d_X2_dropAt_64 : decode cX2_dropAt 64 = .ok (.getfield 172, 3) := by decide +kernel
theorem d_X2_dropAt_67 : decode cX2_dropAt 67 = .ok (.iconst 1, 1) := by decide +kernel
theorem d_X2_dropAt_68 : decode cX2_dropAt 68 = .ok (.if_icmp .ne 16, 3) := by decide +kernel
theorem d_X2_dropAt_71 : decode cX2_dropAt 71 = .ok (.aload 5, 2) := by decide +kernel
theorem d_X2_dropAt_73 : decode cX2_dropAt 73 = .ok (.getfield 92, 3) := by decide +kernel
theorem d_X2_dropAt_76 : decode cX2_dropAt 76 = .ok (.iload_n 3, 1) := by decide +kernel
theorem d_X2_dropAt_77 : decode cX2_dropAt 77 = .ok (.if_icmp .ne 7, 3) := by decide +kernel
theorem d_X2_dropAt_80 : decode cX2_dropAt 80 = .ok (.iconst 1, 1) := by decide +kernel
theorem d_X2_dropAt_81 : decode cX2_dropAt 81 = .ok (.goto 4, 3) := by decide +kernel
theorem d_X2_dropAt_84 : decode cX2_dropAt 84 = .ok (.iconst 0, 1) := by decide +kernel
theorem d_X2_dropAt_85 : decode cX2_dropAt 85 = .ok (.istore 6, 2) := by decide +kernel
theorem d_X2_dropAt_87 : decode cX2_dropAt 87 = .ok (.iload 6, 2) := by decide +kernel
theorem d_X2_dropAt_89 : decode cX2_dropAt 89 = .ok (.ifCond .eq 23, 3) := by decide +kernel
theorem d_X2_dropAt_92 : decode cX2_dropAt 92 = .ok (.aload 5, 2) := by decide +kernel
theorem d_X2_dropAt_94 : decode cX2_dropAt 94 = .ok (.getfield 86, 3) := by decide +kernel
theorem d_X2_dropAt_97 : decode cX2_dropAt 97 = .ok (.iload_n 1, 1) := by decide +kernel
theorem d_X2_dropAt_98 : decode cX2_dropAt 98 = .ok (.if_icmp .ne 14, 3) := by decide +kernel
theorem d_X2_dropAt_101 : decode cX2_dropAt 101 = .ok (.aload_n 0, 1) := by decide +kernel
theorem d_X2_dropAt_102 : decode cX2_dropAt 102 = .ok (.iload 4, 2) := by decide +kernel
theorem d_X2_dropAt_104 : decode cX2_dropAt 104 = .ok (.aload 5, 2) := by decide +kernel
theorem d_X2_dropAt_106 : decode cX2_dropAt 106 = .ok (.getfield 95, 3) := by decide +kernel
theorem d_X2_dropAt_109 : decode cX2_dropAt 109 = .ok (.invokevirtual 175, 3) := by decide +kernel
theorem d_X2_dropAt_112 : decode cX2_dropAt 112 = .ok (.iinc 4 (-1), 3) := by decide +kernel
theorem d_X2_dropAt_115 : decode cX2_dropAt 115 = .ok (.goto (-107), 3) := by decide +kernel
theorem d_X2_dropAt_118 : decode cX2_dropAt 118 = .ok (.return_, 1) := by decide +kernel
def f_X2_dropAt_112 (k8 : Nat → Int32 → Int32 → Int32 → Int32 → Mem → Option (Unit × Mem)) (v0 : Nat) (v1 : Int32) (v2 : Int32) (v3 : Int32) (v4 : Int32) (S : Mem) : Option (Unit × Mem) := (k8 v0 v1 v2 v3 (v4 + (-1)) S)
set_option maxRecDepth 20000 in
theorem t_X2_dropAt_112 {X : MC} {Γ : GG} (C : CX X Γ cX2_dropAt 7 "TickPools$Market" 3 91) (hr : X.2.2.2.2.2.2.2.2.1.sig.returnType = none) {k8 : Nat → Int32 → Int32 → Int32 → Int32 → Mem → Option (Unit × Mem)} {q : Unit × Mem} (hk8 : ∀ (v0 : Nat) (v1 : Int32) (v2 : Int32) (v3 : Int32) (v4 : Int32) (S : Mem), k8 v0 v1 v2 v3 v4 S = some q → ZZ X Γ 7 (QQ X Γ none q.2) S 8 [(0, aR v0), (1, aI v1), (2, aI v2), (3, aI v3), (4, aI v4)] []) (v0 : Nat) (v1 : Int32) (v2 : Int32) (v3 : Int32) (v4 : Int32) (S : Mem) (hf : f_X2_dropAt_112 k8 v0 v1 v2 v3 v4 S = some q) : ZZ X Γ 7 (QQ X Γ none q.2) S 112 [(0, aR v0), (1, aI v1), (2, aI v2), (3, aI v3), (4, aI v4)] [] := by
  unfold f_X2_dropAt_112 at hf
  refine z_iinc (j := 4) (v := (v4 + (-1))) (lv' := [(4, aI (v4 + (-1))), (0, aR v0), (1, aI v1), (2, aI v2), (3, aI v3)]) C d_X2_dropAt_112 rfl rfl (by decide) rfl ?_
  refine z_goto (tgt := 8) C d_X2_dropAt_115 (by decide) ?_
  exact z_sub [1, 2, 3, 4, 0] rfl (hk8 _ _ _ _ _ _ hf)
def f_X2_dropAt_85 (k8 : Nat → Int32 → Int32 → Int32 → Int32 → Mem → Option (Unit × Mem)) (v0 : Nat) (v1 : Int32) (v2 : Int32) (v3 : Int32) (v4 : Int32) (v5 : Nat) (s0 : Int32) (S : Mem) : Option (Unit × Mem) := (if s0 = 0 then (f_X2_dropAt_112 k8 v0 v1 v2 v3 v4 S) else (if kd v5 = (6, 8) then (if (gI S v5 1) = v1 then (if kd v0 = (1, 9) then ((f_X2_withdraw v0 v4 (gI S v5 5) S).bind fun q109 => (f_X2_dropAt_112 k8 v0 v1 v2 v3 v4 q109.2)) else none) else (f_X2_dropAt_112 k8 v0 v1 v2 v3 v4 S)) else none))
set_option maxRecDepth 20000 in
theorem t_X2_dropAt_85 {X : MC} {Γ : GG} (C : CX X Γ cX2_dropAt 7 "TickPools$Market" 3 91) (hr : X.2.2.2.2.2.2.2.2.1.sig.returnType = none) {k8 : Nat → Int32 → Int32 → Int32 → Int32 → Mem → Option (Unit × Mem)} {q : Unit × Mem} (hk8 : ∀ (v0 : Nat) (v1 : Int32) (v2 : Int32) (v3 : Int32) (v4 : Int32) (S : Mem), k8 v0 v1 v2 v3 v4 S = some q → ZZ X Γ 7 (QQ X Γ none q.2) S 8 [(0, aR v0), (1, aI v1), (2, aI v2), (3, aI v3), (4, aI v4)] []) (v0 : Nat) (v1 : Int32) (v2 : Int32) (v3 : Int32) (v4 : Int32) (v5 : Nat) (s0 : Int32) (S : Mem) (hf : f_X2_dropAt_85 k8 v0 v1 v2 v3 v4 v5 s0 S = some q) : ZZ X Γ 7 (QQ X Γ none q.2) S 85 [(0, aR v0), (1, aI v1), (2, aI v2), (3, aI v3), (4, aI v4), (5, aR v5)] [aI s0] := by
  unfold f_X2_dropAt_85 at hf
  refine z_istore (lv' := [(6, aI s0), (0, aR v0), (1, aI v1), (2, aI v2), (3, aI v3), (4, aI v4), (5, aR v5)]) C d_X2_dropAt_85 (by decide) rfl ?_
  refine z_iload (j := 0) C d_X2_dropAt_87 rfl ?_
  refine z_if_eq (tgt := 112) C d_X2_dropAt_89 (by decide) hf (fun c89 hf => ?_) (fun c89 hf => ?_)
  · exact z_sub [1, 2, 3, 4, 5] rfl (t_X2_dropAt_112 C hr hk8 _ _ _ _ _ _ hf)
  · refine z_aload (j := 6) C d_X2_dropAt_92 rfl ?_
    obtain ⟨hg94_0, hf⟩ := gd hf
    refine zg_X7_pool C hg94_0 tw_153 d_X2_dropAt_94 ?_
    refine z_iload_n (j := 2) C d_X2_dropAt_97 rfl ?_
    refine z_icmp_ne (tgt := 112) C d_X2_dropAt_98 (by decide) hf (fun c98 hf => ?_) (fun c98 hf => ?_)
    · exact z_sub [1, 2, 3, 4, 5] rfl (t_X2_dropAt_112 C hr hk8 _ _ _ _ _ _ hf)
    · refine z_aload_n (j := 1) C d_X2_dropAt_101 rfl ?_
      refine z_iload (j := 5) C d_X2_dropAt_102 rfl ?_
      refine z_aload (j := 6) C d_X2_dropAt_104 rfl ?_
      refine zg_X7_liquidity C hg94_0 tw_166 d_X2_dropAt_106 ?_
      obtain ⟨hg109_1, hf⟩ := gd hf
      obtain ⟨q109, hF, hf⟩ := bd hf
      refine z_callV0 (rest := []) C [aI v4, aI (gI S v5 5)] hg109_1 (by decide) rfl rfl k_X2_withdraw tw_898 ⟨by decide, by decide⟩ (Nat.le_of_ble_eq_true rfl) d_X2_dropAt_109 (c_X2_withdraw C.inj hF) rfl ?_
      exact z_sub [1, 2, 3, 4, 5] rfl (t_X2_dropAt_112 C hr hk8 _ _ _ _ _ _ hf)
def f_X2_dropAt_58 (k8 : Nat → Int32 → Int32 → Int32 → Int32 → Mem → Option (Unit × Mem)) (v0 : Nat) (v1 : Int32) (v2 : Int32) (v3 : Int32) (v4 : Int32) (v5 : Nat) (S : Mem) : Option (Unit × Mem) := (f_X2_dropAt_85 k8 v0 v1 v2 v3 v4 v5 0 S)
set_option maxRecDepth 20000 in
theorem t_X2_dropAt_58 {X : MC} {Γ : GG} (C : CX X Γ cX2_dropAt 7 "TickPools$Market" 3 91) (hr : X.2.2.2.2.2.2.2.2.1.sig.returnType = none) {k8 : Nat → Int32 → Int32 → Int32 → Int32 → Mem → Option (Unit × Mem)} {q : Unit × Mem} (hk8 : ∀ (v0 : Nat) (v1 : Int32) (v2 : Int32) (v3 : Int32) (v4 : Int32) (S : Mem), k8 v0 v1 v2 v3 v4 S = some q → ZZ X Γ 7 (QQ X Γ none q.2) S 8 [(0, aR v0), (1, aI v1), (2, aI v2), (3, aI v3), (4, aI v4)] []) (v0 : Nat) (v1 : Int32) (v2 : Int32) (v3 : Int32) (v4 : Int32) (v5 : Nat) (S : Mem) (hf : f_X2_dropAt_58 k8 v0 v1 v2 v3 v4 v5 S = some q) : ZZ X Γ 7 (QQ X Γ none q.2) S 58 [(0, aR v0), (1, aI v1), (2, aI v2), (3, aI v3), (4, aI v4), (5, aR v5)] [] := by
  unfold f_X2_dropAt_58 at hf
  refine z_iconst (v := 0) C d_X2_dropAt_58 (by decide) ?_
  refine z_goto (tgt := 85) C d_X2_dropAt_59 (by decide) ?_
  exact z_sub [0, 1, 2, 3, 4, 5] rfl (t_X2_dropAt_85 C hr hk8 _ _ _ _ _ _ _ _ hf)
def f_X2_dropAt_84 (k8 : Nat → Int32 → Int32 → Int32 → Int32 → Mem → Option (Unit × Mem)) (v0 : Nat) (v1 : Int32) (v2 : Int32) (v3 : Int32) (v4 : Int32) (v5 : Nat) (S : Mem) : Option (Unit × Mem) := (f_X2_dropAt_85 k8 v0 v1 v2 v3 v4 v5 0 S)
set_option maxRecDepth 20000 in
theorem t_X2_dropAt_84 {X : MC} {Γ : GG} (C : CX X Γ cX2_dropAt 7 "TickPools$Market" 3 91) (hr : X.2.2.2.2.2.2.2.2.1.sig.returnType = none) {k8 : Nat → Int32 → Int32 → Int32 → Int32 → Mem → Option (Unit × Mem)} {q : Unit × Mem} (hk8 : ∀ (v0 : Nat) (v1 : Int32) (v2 : Int32) (v3 : Int32) (v4 : Int32) (S : Mem), k8 v0 v1 v2 v3 v4 S = some q → ZZ X Γ 7 (QQ X Γ none q.2) S 8 [(0, aR v0), (1, aI v1), (2, aI v2), (3, aI v3), (4, aI v4)] []) (v0 : Nat) (v1 : Int32) (v2 : Int32) (v3 : Int32) (v4 : Int32) (v5 : Nat) (S : Mem) (hf : f_X2_dropAt_84 k8 v0 v1 v2 v3 v4 v5 S = some q) : ZZ X Γ 7 (QQ X Γ none q.2) S 84 [(0, aR v0), (1, aI v1), (2, aI v2), (3, aI v3), (4, aI v4), (5, aR v5)] [] := by
  unfold f_X2_dropAt_84 at hf
  refine z_iconst (v := 0) C d_X2_dropAt_84 (by decide) ?_
  exact z_sub [0, 1, 2, 3, 4, 5] rfl (t_X2_dropAt_85 C hr hk8 _ _ _ _ _ _ _ _ hf)
def f_X2_dropAt_32 (k8 : Nat → Int32 → Int32 → Int32 → Int32 → Mem → Option (Unit × Mem)) (v0 : Nat) (v1 : Int32) (v2 : Int32) (v3 : Int32) (v4 : Int32) (v5 : Nat) (S : Mem) : Option (Unit × Mem) := (if v2 = 0 then (if kd v5 = (6, 8) then (if (gI S v5 4) = 2 then (if (gI S v5 2) = v3 then (f_X2_dropAt_85 k8 v0 v1 v2 v3 v4 v5 1 S) else (f_X2_dropAt_58 k8 v0 v1 v2 v3 v4 v5 S)) else (f_X2_dropAt_58 k8 v0 v1 v2 v3 v4 v5 S)) else none) else (if kd v5 = (6, 8) then (if (gI S v5 4) = 1 then (if (gI S v5 3) = v3 then (f_X2_dropAt_85 k8 v0 v1 v2 v3 v4 v5 1 S) else (f_X2_dropAt_84 k8 v0 v1 v2 v3 v4 v5 S)) else (f_X2_dropAt_84 k8 v0 v1 v2 v3 v4 v5 S)) else none))
set_option maxRecDepth 20000 in
theorem t_X2_dropAt_32 {X : MC} {Γ : GG} (C : CX X Γ cX2_dropAt 7 "TickPools$Market" 3 91) (hr : X.2.2.2.2.2.2.2.2.1.sig.returnType = none) {k8 : Nat → Int32 → Int32 → Int32 → Int32 → Mem → Option (Unit × Mem)} {q : Unit × Mem} (hk8 : ∀ (v0 : Nat) (v1 : Int32) (v2 : Int32) (v3 : Int32) (v4 : Int32) (S : Mem), k8 v0 v1 v2 v3 v4 S = some q → ZZ X Γ 7 (QQ X Γ none q.2) S 8 [(0, aR v0), (1, aI v1), (2, aI v2), (3, aI v3), (4, aI v4)] []) (v0 : Nat) (v1 : Int32) (v2 : Int32) (v3 : Int32) (v4 : Int32) (v5 : Nat) (S : Mem) (hf : f_X2_dropAt_32 k8 v0 v1 v2 v3 v4 v5 S = some q) : ZZ X Γ 7 (QQ X Γ none q.2) S 32 [(0, aR v0), (1, aI v1), (2, aI v2), (3, aI v3), (4, aI v4), (5, aR v5)] [] := by
  unfold f_X2_dropAt_32 at hf
  refine z_iload_n (j := 2) C d_X2_dropAt_32 rfl ?_
  refine z_if_ne (tgt := 62) C d_X2_dropAt_33 (by decide) hf (fun c33 hf => ?_) (fun c33 hf => ?_)
  · refine z_aload (j := 5) C d_X2_dropAt_62 rfl ?_
    obtain ⟨hg64_0, hf⟩ := gd hf
    refine zg_X7_auto C hg64_0 tw_162 d_X2_dropAt_64 ?_
    refine z_iconst (v := 1) C d_X2_dropAt_67 (by decide) ?_
    refine z_icmp_ne (tgt := 84) C d_X2_dropAt_68 (by decide) hf (fun c68 hf => ?_) (fun c68 hf => ?_)
    · exact z_sub [0, 1, 2, 3, 4, 5] rfl (t_X2_dropAt_84 C hr hk8 _ _ _ _ _ _ _ hf)
    · refine z_aload (j := 5) C d_X2_dropAt_71 rfl ?_
      refine zg_X7_high C hg64_0 tw_159 d_X2_dropAt_73 ?_
      refine z_iload_n (j := 3) C d_X2_dropAt_76 rfl ?_
      refine z_icmp_ne (tgt := 84) C d_X2_dropAt_77 (by decide) hf (fun c77 hf => ?_) (fun c77 hf => ?_)
      · exact z_sub [0, 1, 2, 3, 4, 5] rfl (t_X2_dropAt_84 C hr hk8 _ _ _ _ _ _ _ hf)
      · refine z_iconst (v := 1) C d_X2_dropAt_80 (by decide) ?_
        refine z_goto (tgt := 85) C d_X2_dropAt_81 (by decide) ?_
        exact z_sub [0, 1, 2, 3, 4, 5] rfl (t_X2_dropAt_85 C hr hk8 _ _ _ _ _ _ _ _ hf)
  · refine z_aload (j := 5) C d_X2_dropAt_36 rfl ?_
    obtain ⟨hg38_0, hf⟩ := gd hf
    refine zg_X7_auto C hg38_0 tw_162 d_X2_dropAt_38 ?_
    refine z_iconst (v := 2) C d_X2_dropAt_41 (by decide) ?_
    refine z_icmp_ne (tgt := 58) C d_X2_dropAt_42 (by decide) hf (fun c42 hf => ?_) (fun c42 hf => ?_)
    · exact z_sub [0, 1, 2, 3, 4, 5] rfl (t_X2_dropAt_58 C hr hk8 _ _ _ _ _ _ _ hf)
    · refine z_aload (j := 5) C d_X2_dropAt_45 rfl ?_
      refine zg_X7_low C hg38_0 tw_156 d_X2_dropAt_47 ?_
      refine z_iload_n (j := 3) C d_X2_dropAt_50 rfl ?_
      refine z_icmp_ne (tgt := 58) C d_X2_dropAt_51 (by decide) hf (fun c51 hf => ?_) (fun c51 hf => ?_)
      · exact z_sub [0, 1, 2, 3, 4, 5] rfl (t_X2_dropAt_58 C hr hk8 _ _ _ _ _ _ _ hf)
      · refine z_iconst (v := 1) C d_X2_dropAt_54 (by decide) ?_
        refine z_goto (tgt := 85) C d_X2_dropAt_55 (by decide) ?_
        exact z_sub [0, 1, 2, 3, 4, 5] rfl (t_X2_dropAt_85 C hr hk8 _ _ _ _ _ _ _ _ hf)
def f_X2_dropAt_118 (S : Mem) : Option (Unit × Mem) := (some ((), S))
set_option maxRecDepth 20000 in
theorem t_X2_dropAt_118 {X : MC} {Γ : GG} (C : CX X Γ cX2_dropAt 7 "TickPools$Market" 3 91) (hr : X.2.2.2.2.2.2.2.2.1.sig.returnType = none) {q : Unit × Mem} (S : Mem) (hf : f_X2_dropAt_118 S = some q) : ZZ X Γ 7 (QQ X Γ none q.2) S 118 [] [] := by
  unfold f_X2_dropAt_118 at hf
  exact r_v C hr d_X2_dropAt_118 hf
def f_X2_dropAt_8B (k8 : Nat → Int32 → Int32 → Int32 → Int32 → Mem → Option (Unit × Mem)) (v0 : Nat) (v1 : Int32) (v2 : Int32) (v3 : Int32) (v4 : Int32) (S : Mem) : Option (Unit × Mem) := (if v4 < 0 then (f_X2_dropAt_118  S) else (if kd v0 = (1, 9) then (if 12 ≤ v4 then (f_X2_dropAt_118  S) else (if inb v4 12 = true then (f_X2_dropAt_32 k8 v0 v1 v2 v3 v4 (gR S (v0 + 3) ((v4 : Int32).toNatClampNeg)) S) else none)) else none))
set_option maxRecDepth 20000 in
theorem t_X2_dropAt_8B {X : MC} {Γ : GG} (C : CX X Γ cX2_dropAt 7 "TickPools$Market" 3 91) (hr : X.2.2.2.2.2.2.2.2.1.sig.returnType = none) {k8 : Nat → Int32 → Int32 → Int32 → Int32 → Mem → Option (Unit × Mem)} {q : Unit × Mem} (hk8 : ∀ (v0 : Nat) (v1 : Int32) (v2 : Int32) (v3 : Int32) (v4 : Int32) (S : Mem), k8 v0 v1 v2 v3 v4 S = some q → ZZ X Γ 7 (QQ X Γ none q.2) S 8 [(0, aR v0), (1, aI v1), (2, aI v2), (3, aI v3), (4, aI v4)] []) (v0 : Nat) (v1 : Int32) (v2 : Int32) (v3 : Int32) (v4 : Int32) (S : Mem) (hf : f_X2_dropAt_8B k8 v0 v1 v2 v3 v4 S = some q) : ZZ X Γ 7 (QQ X Γ none q.2) S 8 [(0, aR v0), (1, aI v1), (2, aI v2), (3, aI v3), (4, aI v4)] [] := by
  unfold f_X2_dropAt_8B at hf
  refine z_iload (j := 4) C d_X2_dropAt_8 rfl ?_
  refine z_if_lt (tgt := 118) C d_X2_dropAt_10 (by decide) hf (fun c10 hf => ?_) (fun c10 hf => ?_)
  · exact z_sub [] rfl (t_X2_dropAt_118 C hr  _ hf)
  · refine z_iload (j := 4) C d_X2_dropAt_13 rfl ?_
    refine z_aload_n (j := 0) C d_X2_dropAt_15 rfl ?_
    obtain ⟨hg16_0, hf⟩ := gd hf
    refine zg_X2_stakeRow C hg16_0 tw_210 d_X2_dropAt_16 ?_
    refine z_alen (v := 12) C (kdM3 hg16_0) (by decide) (by decide) d_X2_dropAt_19 ?_
    refine z_icmp_ge (tgt := 118) C d_X2_dropAt_20 (by decide) hf (fun c20 hf => ?_) (fun c20 hf => ?_)
    · exact z_sub [] rfl (t_X2_dropAt_118 C hr  _ hf)
    · refine z_aload_n (j := 0) C d_X2_dropAt_23 rfl ?_
      refine zg_X2_stakeRow C hg16_0 tw_210 d_X2_dropAt_24 ?_
      refine z_iload (j := 4) C d_X2_dropAt_27 rfl ?_
      obtain ⟨hi29_0, hf⟩ := gd hf
      refine z_aldS C (kdM3 hg16_0) hi29_0 d_X2_dropAt_29 ?_
      refine z_astore (lv' := [(5, aR (gR S (v0 + 3) ((v4 : Int32).toNatClampNeg))), (0, aR v0), (1, aI v1), (2, aI v2), (3, aI v3), (4, aI v4)]) C d_X2_dropAt_30 (by decide) rfl ?_
      exact z_sub [1, 2, 3, 4, 5, 0] rfl (t_X2_dropAt_32 C hr hk8 _ _ _ _ _ _ _ hf)
def f_X2_dropAt_8 : Nat → Nat → Int32 → Int32 → Int32 → Int32 → Mem → Option (Unit × Mem)
  | 0 => fun _ _ _ _ _ _ => none
  | n + 1 => f_X2_dropAt_8B (f_X2_dropAt_8 n)
theorem t_X2_dropAt_8 {X : MC} {Γ : GG} (C : CX X Γ cX2_dropAt 7 "TickPools$Market" 3 91) (hr : X.2.2.2.2.2.2.2.2.1.sig.returnType = none) {q : Unit × Mem} : ∀ (n : Nat) (v0 : Nat) (v1 : Int32) (v2 : Int32) (v3 : Int32) (v4 : Int32) (S : Mem) (hf : f_X2_dropAt_8 n v0 v1 v2 v3 v4 S = some q), ZZ X Γ 7 (QQ X Γ none q.2) S 8 [(0, aR v0), (1, aI v1), (2, aI v2), (3, aI v3), (4, aI v4)] []
  | 0, _, _, _, _, _, _, hf => nomatch (show (none : Option (Unit × Mem)) = some q from hf)
  | n + 1, v0, v1, v2, v3, v4, S, hf => t_X2_dropAt_8B C hr (t_X2_dropAt_8 C hr n) v0 v1 v2 v3 v4 S hf
/-- TickPools$Market.dropAt(III)V -/
def f_X2_dropAt (h0 : Nat) (p1 : Int32) (p2 : Int32) (p3 : Int32) (S : Mem) : Option (Unit × Mem) := (if kd h0 = (1, 9) then (f_X2_dropAt_8  100000 h0 p1 p2 p3 ((gI S h0 3) - 1) S) else none)
set_option maxRecDepth 20000 in
theorem c_X2_dropAt {l : Launch} {Γ : GG} (hI : Inj Γ) {h0 : Nat} {p1 : Int32} {p2 : Int32} {p3 : Int32} {S : Mem} {q : Unit × Mem} (hf : f_X2_dropAt h0 p1 p2 p3 S = some q) : MM l Γ yX2_dropAt cX2_dropAt 7 (none) 3 91 [aR h0, aI p1, aI p2, aI p3] S none q.2 := by
  refine met_of hI "TickPools$Market" rfl (by decide +kernel) (Nat.le_of_ble_eq_true rfl) (fun X hX C hr => ?_)
  unfold f_X2_dropAt at hf
  show ZZ X Γ 7 _ S 0 [(0, aR h0), (1, aI p1), (2, aI p2), (3, aI p3)] []
  refine z_aload_n (j := 0) C d_X2_dropAt_0 rfl ?_
  obtain ⟨hg1_0, hf⟩ := gd hf
  refine zg_X2_stakes C hg1_0 tw_200 d_X2_dropAt_1 ?_
  refine z_iconst (v := 1) C d_X2_dropAt_4 (by decide) ?_
  refine z_isub C d_X2_dropAt_5 ?_
  refine z_istore (lv' := [(4, aI ((gI S h0 3) - 1)), (0, aR h0), (1, aI p1), (2, aI p2), (3, aI p3)]) C d_X2_dropAt_6 (by decide) rfl ?_
  exact z_sub [1, 2, 3, 4, 0] rfl (t_X2_dropAt_8 C hr  100000 _ _ _ _ _ _ hf)
theorem d_X10_finish_0 : decode cX10_finish 0 = .ok (.aload_n 0, 1) := by decide +kernel
theorem d_X10_finish_1 : decode cX10_finish 1 = .ok (.getfield 34, 3) := by decide +kernel
theorem d_X10_finish_4 : decode cX10_finish 4 = .ok (.ifCond .eq 13, 3) := by decide +kernel
theorem d_X10_finish_7 : decode cX10_finish 7 = .ok (.aload_n 0, 1) := by decide +kernel
theorem d_X10_finish_8 : decode cX10_finish 8 = .ok (.getfield 15, 3) := by decide +kernel
theorem d_X10_finish_11 : decode cX10_finish 11 = .ok (.invokestatic 83, 3) := by decide +kernel
theorem d_X10_finish_14 : decode cX10_finish 14 = .ok (.ifCond .ne 4, 3) := by decide +kernel
theorem d_X10_finish_17 : decode cX10_finish 17 = .ok (.return_, 1) := by decide +kernel
theorem d_X10_finish_18 : decode cX10_finish 18 = .ok (.aload_n 0, 1) := by decide +kernel
theorem d_X10_finish_19 : decode cX10_finish 19 = .ok (.getfield 40, 3) := by decide +kernel
theorem d_X10_finish_22 : decode cX10_finish 22 = .ok (.dup, 1) := by decide +kernel
theorem d_X10_finish_23 : decode cX10_finish 23 = .ok (.getfield 151, 3) := by decide +kernel
theorem d_X10_finish_26 : decode cX10_finish 26 = .ok (.aload_n 0, 1) := by decide +kernel
theorem d_X10_finish_27 : decode cX10_finish 27 = .ok (.getfield 71, 3) := by decide +kernel
theorem d_X10_finish_30 : decode cX10_finish 30 = .ok (.iadd, 1) := by decide +kernel
theorem d_X10_finish_31 : decode cX10_finish 31 = .ok (.putfield 151, 3) := by decide +kernel
theorem d_X10_finish_34 : decode cX10_finish 34 = .ok (.aload_n 0, 1) := by decide +kernel
theorem d_X10_finish_35 : decode cX10_finish 35 = .ok (.getfield 67, 3) := by decide +kernel
theorem d_X10_finish_38 : decode cX10_finish 38 = .ok (.getfield 152, 3) := by decide +kernel
theorem d_X10_finish_41 : decode cX10_finish 41 = .ok (.aload_n 0, 1) := by decide +kernel
theorem d_X10_finish_42 : decode cX10_finish 42 = .ok (.getfield 15, 3) := by decide +kernel
theorem d_X10_finish_45 : decode cX10_finish 45 = .ok (.dup2, 1) := by decide +kernel
theorem d_X10_finish_46 : decode cX10_finish 46 = .ok (.iaload, 1) := by decide +kernel
theorem d_X10_finish_47 : decode cX10_finish 47 = .ok (.aload_n 0, 1) := by decide +kernel
theorem d_X10_finish_48 : decode cX10_finish 48 = .ok (.getfield 77, 3) := by decide +kernel
theorem d_X10_finish_51 : decode cX10_finish 51 = .ok (.l2i, 1) := by decide +kernel
theorem d_X10_finish_52 : decode cX10_finish 52 = .ok (.iadd, 1) := by decide +kernel
theorem d_X10_finish_53 : decode cX10_finish 53 = .ok (.iastore, 1) := by decide +kernel
theorem d_X10_finish_54 : decode cX10_finish 54 = .ok (.aload_n 0, 1) := by decide +kernel
theorem d_X10_finish_55 : decode cX10_finish 55 = .ok (.getfield 67, 3) := by decide +kernel
theorem d_X10_finish_58 : decode cX10_finish 58 = .ok (.getfield 152, 3) := by decide +kernel
theorem d_X10_finish_61 : decode cX10_finish 61 = .ok (.iconst 1, 1) := by decide +kernel
theorem d_X10_finish_62 : decode cX10_finish 62 = .ok (.aload_n 0, 1) := by decide +kernel
theorem d_X10_finish_63 : decode cX10_finish 63 = .ok (.getfield 15, 3) := by decide +kernel
theorem d_X10_finish_66 : decode cX10_finish 66 = .ok (.isub, 1) := by decide +kernel
theorem d_X10_finish_67 : decode cX10_finish 67 = .ok (.dup2, 1) := by decide +kernel
theorem d_X10_finish_68 : decode cX10_finish 68 = .ok (.iaload, 1) := by decide +kernel
theorem d_X10_finish_69 : decode cX10_finish 69 = .ok (.aload_n 0, 1) := by decide +kernel
theorem d_X10_finish_70 : decode cX10_finish 70 = .ok (.getfield 74, 3) := by decide +kernel
theorem d_X10_finish_73 : decode cX10_finish 73 = .ok (.l2i, 1) := by decide +kernel
theorem d_X10_finish_74 : decode cX10_finish 74 = .ok (.isub, 1) := by decide +kernel
theorem d_X10_finish_75 : decode cX10_finish 75 = .ok (.iastore, 1) := by decide +kernel
theorem d_X10_finish_76 : decode cX10_finish 76 = .ok (.iload_n 1, 1) := by decide +kernel
theorem d_X10_finish_77 : decode cX10_finish 77 = .ok (.iconst (-1), 1) := by decide +kernel
theorem d_X10_finish_78 : decode cX10_finish 78 = .ok (.if_icmp .eq 54, 3) := by decide +kernel
theorem d_X10_finish_81 : decode cX10_finish 81 = .ok (.aload_n 0, 1) := by decide +kernel
theorem d_X10_finish_82 : decode cX10_finish 82 = .ok (.getfield 40, 3) := by decide +kernel
theorem d_X10_finish_85 : decode cX10_finish 85 = .ok (.iload_n 1, 1) := by decide +kernel
theorem d_X10_finish_86 : decode cX10_finish 86 = .ok (.aload_n 0, 1) := by decide +kernel
theorem d_X10_finish_87 : decode cX10_finish 87 = .ok (.getfield 67, 3) := by decide +kernel
theorem d_X10_finish_90 : decode cX10_finish 90 = .ok (.aload_n 0, 1) := by decide +kernel
theorem d_X10_finish_91 : decode cX10_finish 91 = .ok (.getfield 15, 3) := by decide +kernel
theorem d_X10_finish_94 : decode cX10_finish 94 = .ok (.invokevirtual 156, 3) := by decide +kernel
theorem d_X10_finish_97 : decode cX10_finish 97 = .ok (.aload_n 0, 1) := by decide +kernel
theorem d_X10_finish_98 : decode cX10_finish 98 = .ok (.getfield 77, 3) := by decide +kernel
theorem d_X10_finish_101 : decode cX10_finish 101 = .ok (.lneg, 1) := by decide +kernel
theorem d_X10_finish_102 : decode cX10_finish 102 = .ok (.l2i, 1) := by decide +kernel
theorem d_X10_finish_103 : decode cX10_finish 103 = .ok (.invokevirtual 159, 3) := by decide +kernel
theorem d_X10_finish_106 : decode cX10_finish 106 = .ok (.aload_n 0, 1) := by decide +kernel
theorem d_X10_finish_107 : decode cX10_finish 107 = .ok (.getfield 40, 3) := by decide +kernel
theorem d_X10_finish_110 : decode cX10_finish 110 = .ok (.iload_n 1, 1) := by decide +kernel
theorem d_X10_finish_111 : decode cX10_finish 111 = .ok (.aload_n 0, 1) := by decide +kernel
theorem d_X10_finish_112 : decode cX10_finish 112 = .ok (.getfield 67, 3) := by decide +kernel
theorem d_X10_finish_115 : decode cX10_finish 115 = .ok (.iconst 1, 1) := by decide +kernel
theorem d_X10_finish_116 : decode cX10_finish 116 = .ok (.aload_n 0, 1) := by decide +kernel
theorem d_X10_finish_117 : decode cX10_finish 117 = .ok (.getfield 15, 3) := by decide +kernel
theorem d_X10_finish_120 : decode cX10_finish 120 = .ok (.isub, 1) := by decide +kernel
theorem d_X10_finish_121 : decode cX10_finish 121 = .ok (.invokevirtual 156, 3) := by decide +kernel
theorem d_X10_finish_124 : decode cX10_finish 124 = .ok (.aload_n 0, 1) := by decide +kernel
theorem d_X10_finish_125 : decode cX10_finish 125 = .ok (.getfield 74, 3) := by decide +kernel
theorem d_X10_finish_128 : decode cX10_finish 128 = .ok (.l2i, 1) := by decide +kernel
theorem d_X10_finish_129 : decode cX10_finish 129 = .ok (.invokevirtual 159, 3) := by decide +kernel
theorem d_X10_finish_132 : decode cX10_finish 132 = .ok (.return_, 1) := by decide +kernel
def f_X10_finish_17 (S : Mem) : Option (Unit × Mem) := (some ((), S))
set_option maxRecDepth 20000 in
theorem t_X10_finish_17 {X : MC} {Γ : GG} (C : CX X Γ cX10_finish 2 "TickPools$Trade" 1 24) (hr : X.2.2.2.2.2.2.2.2.1.sig.returnType = none) {q : Unit × Mem} (S : Mem) (hf : f_X10_finish_17 S = some q) : ZZ X Γ 2 (QQ X Γ none q.2) S 17 [] [] := by
  unfold f_X10_finish_17 at hf
  exact r_v C hr d_X10_finish_17 hf
def f_X10_finish_132 (S : Mem) : Option (Unit × Mem) := (some ((), S))
set_option maxRecDepth 20000 in
theorem t_X10_finish_132 {X : MC} {Γ : GG} (C : CX X Γ cX10_finish 2 "TickPools$Trade" 1 24) (hr : X.2.2.2.2.2.2.2.2.1.sig.returnType = none) {q : Unit × Mem} (S : Mem) (hf : f_X10_finish_132 S = some q) : ZZ X Γ 2 (QQ X Γ none q.2) S 132 [] [] := by
  unfold f_X10_finish_132 at hf
  exact r_v C hr d_X10_finish_132 hf
def f_X10_finish_76 (v1 : Int32) (S : Mem) : Option (Unit × Mem) := (if v1 = (-1) then (f_X10_finish_132  S) else (if kd (gR S 4 1) = (3, 12) then ((f_X4_thingOn (gR S 4 1) (gI S 4 3) S).bind fun q94 => (if kd (gR S 4 0) = (1, 9) then ((f_X2_putIntoPurse (gR S 4 0) v1 q94.1 (((-(gL q94.2 4 12)) : Int64).toInt32) q94.2).bind fun q103 => (if kd (gR q103.2 4 1) = (3, 12) then ((f_X4_thingOn (gR q103.2 4 1) (1 - (gI q103.2 4 3)) q103.2).bind fun q121 => (if kd (gR q103.2 4 0) = (1, 9) then ((f_X2_putIntoPurse (gR q103.2 4 0) v1 q121.1 (((gL q121.2 4 11) : Int64).toInt32) q121.2).bind fun q129 => (f_X10_finish_132  q129.2)) else none)) else none)) else none)) else none))
set_option maxRecDepth 20000 in
theorem t_X10_finish_76 {X : MC} {Γ : GG} (C : CX X Γ cX10_finish 2 "TickPools$Trade" 1 24) (hr : X.2.2.2.2.2.2.2.2.1.sig.returnType = none) {q : Unit × Mem} (v1 : Int32) (S : Mem) (hf : f_X10_finish_76 v1 S = some q) : ZZ X Γ 2 (QQ X Γ none q.2) S 76 [(0, aR 4), (1, aI v1)] [] := by
  unfold f_X10_finish_76 at hf
  refine z_iload_n (j := 1) C d_X10_finish_76 rfl ?_
  refine z_iconst (v := (-1)) C d_X10_finish_77 (by decide) ?_
  refine z_icmp_eq (tgt := 132) C d_X10_finish_78 (by decide) hf (fun c78 hf => ?_) (fun c78 hf => ?_)
  · exact z_sub [] rfl (t_X10_finish_132 C hr  _ hf)
  · refine z_aload_n (j := 0) C d_X10_finish_81 rfl ?_
    refine zg_X10_market C rfl tw_236 d_X10_finish_82 ?_
    refine z_iload_n (j := 1) C d_X10_finish_85 rfl ?_
    refine z_aload_n (j := 0) C d_X10_finish_86 rfl ?_
    refine zg_X10_pool C rfl tw_237 d_X10_finish_87 ?_
    refine z_aload_n (j := 0) C d_X10_finish_90 rfl ?_
    refine zg_X10_side C rfl tw_239 d_X10_finish_91 ?_
    obtain ⟨hg94_0, hf⟩ := gd hf
    obtain ⟨q94, hF, hf⟩ := bd hf
    refine z_callV1 (rest := [aI v1, aR (gR S 4 0)]) C [aI (gI S 4 3)] hg94_0 (by decide) rfl rfl k_X4_thingOn tw_930 ⟨by decide, by decide⟩ (Nat.le_of_ble_eq_true rfl) d_X10_finish_94 (c_X4_thingOn C.inj hF) rfl ?_
    refine z_aload_n (j := 0) C d_X10_finish_97 rfl ?_
    refine zg_X10_paid C rfl tw_255 d_X10_finish_98 ?_
    refine z_lneg C d_X10_finish_101 ?_
    refine z_l2i C d_X10_finish_102 ?_
    obtain ⟨hg103_1, hf⟩ := gd hf
    obtain ⟨q103, hF, hf⟩ := bd hf
    refine z_callV0 (rest := []) C [aI v1, aI q94.1, aI (((-(gL q94.2 4 12)) : Int64).toInt32)] hg103_1 (by decide) rfl rfl k_X2_putIntoPurse tw_931 ⟨by decide, by decide⟩ (Nat.le_of_ble_eq_true rfl) d_X10_finish_103 (c_X2_putIntoPurse C.inj hF) rfl ?_
    refine z_aload_n (j := 0) C d_X10_finish_106 rfl ?_
    refine zg_X10_market C rfl tw_236 d_X10_finish_107 ?_
    refine z_iload_n (j := 1) C d_X10_finish_110 rfl ?_
    refine z_aload_n (j := 0) C d_X10_finish_111 rfl ?_
    refine zg_X10_pool C rfl tw_237 d_X10_finish_112 ?_
    refine z_iconst (v := 1) C d_X10_finish_115 (by decide) ?_
    refine z_aload_n (j := 0) C d_X10_finish_116 rfl ?_
    refine zg_X10_side C rfl tw_239 d_X10_finish_117 ?_
    refine z_isub C d_X10_finish_120 ?_
    obtain ⟨hg121_2, hf⟩ := gd hf
    obtain ⟨q121, hF, hf⟩ := bd hf
    refine z_callV1 (rest := [aI v1, aR (gR q103.2 4 0)]) C [aI (1 - (gI q103.2 4 3))] hg121_2 (by decide) rfl rfl k_X4_thingOn tw_930 ⟨by decide, by decide⟩ (Nat.le_of_ble_eq_true rfl) d_X10_finish_121 (c_X4_thingOn C.inj hF) rfl ?_
    refine z_aload_n (j := 0) C d_X10_finish_124 rfl ?_
    refine zg_X10_gave C rfl tw_251 d_X10_finish_125 ?_
    refine z_l2i C d_X10_finish_128 ?_
    obtain ⟨hg129_3, hf⟩ := gd hf
    obtain ⟨q129, hF, hf⟩ := bd hf
    refine z_callV0 (rest := []) C [aI v1, aI q121.1, aI (((gL q121.2 4 11) : Int64).toInt32)] hg129_3 (by decide) rfl rfl k_X2_putIntoPurse tw_931 ⟨by decide, by decide⟩ (Nat.le_of_ble_eq_true rfl) d_X10_finish_129 (c_X2_putIntoPurse C.inj hF) rfl ?_
    exact z_sub [] rfl (t_X10_finish_132 C hr  _ hf)
/-- TickPools$Trade.finish(I)V -/
def f_X10_finish (p1 : Int32) (S : Mem) : Option (Unit × Mem) := (if (gI S 4 4) = 0 then (f_X10_finish_17  S) else ((f_X11_isSide (gI S 4 3) S).bind fun q11 => (if q11.1 = 0 then (f_X10_finish_17  q11.2) else (if kd (gR q11.2 4 0) = (1, 9) then (if kd (gR (sI q11.2 (gR q11.2 4 0) 5 ((gI q11.2 (gR q11.2 4 0) 5) + (gI q11.2 4 9))) 4 1) = (3, 12) then (if inb (gI (sI q11.2 (gR q11.2 4 0) 5 ((gI q11.2 (gR q11.2 4 0) 5) + (gI q11.2 4 9))) 4 3) 2 = true then (if inb (gI (sI q11.2 (gR q11.2 4 0) 5 ((gI q11.2 (gR q11.2 4 0) 5) + (gI q11.2 4 9))) 4 3) 2 = true then (if kd (gR (sI (sI q11.2 (gR q11.2 4 0) 5 ((gI q11.2 (gR q11.2 4 0) 5) + (gI q11.2 4 9))) ((gR (sI q11.2 (gR q11.2 4 0) 5 ((gI q11.2 (gR q11.2 4 0) 5) + (gI q11.2 4 9))) 4 1) + 1) (((gI (sI q11.2 (gR q11.2 4 0) 5 ((gI q11.2 (gR q11.2 4 0) 5) + (gI q11.2 4 9))) 4 3) : Int32).toNatClampNeg) ((gI (sI q11.2 (gR q11.2 4 0) 5 ((gI q11.2 (gR q11.2 4 0) 5) + (gI q11.2 4 9))) ((gR (sI q11.2 (gR q11.2 4 0) 5 ((gI q11.2 (gR q11.2 4 0) 5) + (gI q11.2 4 9))) 4 1) + 1) (((gI (sI q11.2 (gR q11.2 4 0) 5 ((gI q11.2 (gR q11.2 4 0) 5) + (gI q11.2 4 9))) 4 3) : Int32).toNatClampNeg)) + (((gL (sI q11.2 (gR q11.2 4 0) 5 ((gI q11.2 (gR q11.2 4 0) 5) + (gI q11.2 4 9))) 4 12) : Int64).toInt32))) 4 1) = (3, 12) then (if inb (1 - (gI (sI (sI q11.2 (gR q11.2 4 0) 5 ((gI q11.2 (gR q11.2 4 0) 5) + (gI q11.2 4 9))) ((gR (sI q11.2 (gR q11.2 4 0) 5 ((gI q11.2 (gR q11.2 4 0) 5) + (gI q11.2 4 9))) 4 1) + 1) (((gI (sI q11.2 (gR q11.2 4 0) 5 ((gI q11.2 (gR q11.2 4 0) 5) + (gI q11.2 4 9))) 4 3) : Int32).toNatClampNeg) ((gI (sI q11.2 (gR q11.2 4 0) 5 ((gI q11.2 (gR q11.2 4 0) 5) + (gI q11.2 4 9))) ((gR (sI q11.2 (gR q11.2 4 0) 5 ((gI q11.2 (gR q11.2 4 0) 5) + (gI q11.2 4 9))) 4 1) + 1) (((gI (sI q11.2 (gR q11.2 4 0) 5 ((gI q11.2 (gR q11.2 4 0) 5) + (gI q11.2 4 9))) 4 3) : Int32).toNatClampNeg)) + (((gL (sI q11.2 (gR q11.2 4 0) 5 ((gI q11.2 (gR q11.2 4 0) 5) + (gI q11.2 4 9))) 4 12) : Int64).toInt32))) 4 3)) 2 = true then (if inb (1 - (gI (sI (sI q11.2 (gR q11.2 4 0) 5 ((gI q11.2 (gR q11.2 4 0) 5) + (gI q11.2 4 9))) ((gR (sI q11.2 (gR q11.2 4 0) 5 ((gI q11.2 (gR q11.2 4 0) 5) + (gI q11.2 4 9))) 4 1) + 1) (((gI (sI q11.2 (gR q11.2 4 0) 5 ((gI q11.2 (gR q11.2 4 0) 5) + (gI q11.2 4 9))) 4 3) : Int32).toNatClampNeg) ((gI (sI q11.2 (gR q11.2 4 0) 5 ((gI q11.2 (gR q11.2 4 0) 5) + (gI q11.2 4 9))) ((gR (sI q11.2 (gR q11.2 4 0) 5 ((gI q11.2 (gR q11.2 4 0) 5) + (gI q11.2 4 9))) 4 1) + 1) (((gI (sI q11.2 (gR q11.2 4 0) 5 ((gI q11.2 (gR q11.2 4 0) 5) + (gI q11.2 4 9))) 4 3) : Int32).toNatClampNeg)) + (((gL (sI q11.2 (gR q11.2 4 0) 5 ((gI q11.2 (gR q11.2 4 0) 5) + (gI q11.2 4 9))) 4 12) : Int64).toInt32))) 4 3)) 2 = true then (f_X10_finish_76  p1 (sI (sI (sI q11.2 (gR q11.2 4 0) 5 ((gI q11.2 (gR q11.2 4 0) 5) + (gI q11.2 4 9))) ((gR (sI q11.2 (gR q11.2 4 0) 5 ((gI q11.2 (gR q11.2 4 0) 5) + (gI q11.2 4 9))) 4 1) + 1) (((gI (sI q11.2 (gR q11.2 4 0) 5 ((gI q11.2 (gR q11.2 4 0) 5) + (gI q11.2 4 9))) 4 3) : Int32).toNatClampNeg) ((gI (sI q11.2 (gR q11.2 4 0) 5 ((gI q11.2 (gR q11.2 4 0) 5) + (gI q11.2 4 9))) ((gR (sI q11.2 (gR q11.2 4 0) 5 ((gI q11.2 (gR q11.2 4 0) 5) + (gI q11.2 4 9))) 4 1) + 1) (((gI (sI q11.2 (gR q11.2 4 0) 5 ((gI q11.2 (gR q11.2 4 0) 5) + (gI q11.2 4 9))) 4 3) : Int32).toNatClampNeg)) + (((gL (sI q11.2 (gR q11.2 4 0) 5 ((gI q11.2 (gR q11.2 4 0) 5) + (gI q11.2 4 9))) 4 12) : Int64).toInt32))) ((gR (sI (sI q11.2 (gR q11.2 4 0) 5 ((gI q11.2 (gR q11.2 4 0) 5) + (gI q11.2 4 9))) ((gR (sI q11.2 (gR q11.2 4 0) 5 ((gI q11.2 (gR q11.2 4 0) 5) + (gI q11.2 4 9))) 4 1) + 1) (((gI (sI q11.2 (gR q11.2 4 0) 5 ((gI q11.2 (gR q11.2 4 0) 5) + (gI q11.2 4 9))) 4 3) : Int32).toNatClampNeg) ((gI (sI q11.2 (gR q11.2 4 0) 5 ((gI q11.2 (gR q11.2 4 0) 5) + (gI q11.2 4 9))) ((gR (sI q11.2 (gR q11.2 4 0) 5 ((gI q11.2 (gR q11.2 4 0) 5) + (gI q11.2 4 9))) 4 1) + 1) (((gI (sI q11.2 (gR q11.2 4 0) 5 ((gI q11.2 (gR q11.2 4 0) 5) + (gI q11.2 4 9))) 4 3) : Int32).toNatClampNeg)) + (((gL (sI q11.2 (gR q11.2 4 0) 5 ((gI q11.2 (gR q11.2 4 0) 5) + (gI q11.2 4 9))) 4 12) : Int64).toInt32))) 4 1) + 1) (((1 - (gI (sI (sI q11.2 (gR q11.2 4 0) 5 ((gI q11.2 (gR q11.2 4 0) 5) + (gI q11.2 4 9))) ((gR (sI q11.2 (gR q11.2 4 0) 5 ((gI q11.2 (gR q11.2 4 0) 5) + (gI q11.2 4 9))) 4 1) + 1) (((gI (sI q11.2 (gR q11.2 4 0) 5 ((gI q11.2 (gR q11.2 4 0) 5) + (gI q11.2 4 9))) 4 3) : Int32).toNatClampNeg) ((gI (sI q11.2 (gR q11.2 4 0) 5 ((gI q11.2 (gR q11.2 4 0) 5) + (gI q11.2 4 9))) ((gR (sI q11.2 (gR q11.2 4 0) 5 ((gI q11.2 (gR q11.2 4 0) 5) + (gI q11.2 4 9))) 4 1) + 1) (((gI (sI q11.2 (gR q11.2 4 0) 5 ((gI q11.2 (gR q11.2 4 0) 5) + (gI q11.2 4 9))) 4 3) : Int32).toNatClampNeg)) + (((gL (sI q11.2 (gR q11.2 4 0) 5 ((gI q11.2 (gR q11.2 4 0) 5) + (gI q11.2 4 9))) 4 12) : Int64).toInt32))) 4 3)) : Int32).toNatClampNeg) ((gI (sI (sI q11.2 (gR q11.2 4 0) 5 ((gI q11.2 (gR q11.2 4 0) 5) + (gI q11.2 4 9))) ((gR (sI q11.2 (gR q11.2 4 0) 5 ((gI q11.2 (gR q11.2 4 0) 5) + (gI q11.2 4 9))) 4 1) + 1) (((gI (sI q11.2 (gR q11.2 4 0) 5 ((gI q11.2 (gR q11.2 4 0) 5) + (gI q11.2 4 9))) 4 3) : Int32).toNatClampNeg) ((gI (sI q11.2 (gR q11.2 4 0) 5 ((gI q11.2 (gR q11.2 4 0) 5) + (gI q11.2 4 9))) ((gR (sI q11.2 (gR q11.2 4 0) 5 ((gI q11.2 (gR q11.2 4 0) 5) + (gI q11.2 4 9))) 4 1) + 1) (((gI (sI q11.2 (gR q11.2 4 0) 5 ((gI q11.2 (gR q11.2 4 0) 5) + (gI q11.2 4 9))) 4 3) : Int32).toNatClampNeg)) + (((gL (sI q11.2 (gR q11.2 4 0) 5 ((gI q11.2 (gR q11.2 4 0) 5) + (gI q11.2 4 9))) 4 12) : Int64).toInt32))) ((gR (sI (sI q11.2 (gR q11.2 4 0) 5 ((gI q11.2 (gR q11.2 4 0) 5) + (gI q11.2 4 9))) ((gR (sI q11.2 (gR q11.2 4 0) 5 ((gI q11.2 (gR q11.2 4 0) 5) + (gI q11.2 4 9))) 4 1) + 1) (((gI (sI q11.2 (gR q11.2 4 0) 5 ((gI q11.2 (gR q11.2 4 0) 5) + (gI q11.2 4 9))) 4 3) : Int32).toNatClampNeg) ((gI (sI q11.2 (gR q11.2 4 0) 5 ((gI q11.2 (gR q11.2 4 0) 5) + (gI q11.2 4 9))) ((gR (sI q11.2 (gR q11.2 4 0) 5 ((gI q11.2 (gR q11.2 4 0) 5) + (gI q11.2 4 9))) 4 1) + 1) (((gI (sI q11.2 (gR q11.2 4 0) 5 ((gI q11.2 (gR q11.2 4 0) 5) + (gI q11.2 4 9))) 4 3) : Int32).toNatClampNeg)) + (((gL (sI q11.2 (gR q11.2 4 0) 5 ((gI q11.2 (gR q11.2 4 0) 5) + (gI q11.2 4 9))) 4 12) : Int64).toInt32))) 4 1) + 1) (((1 - (gI (sI (sI q11.2 (gR q11.2 4 0) 5 ((gI q11.2 (gR q11.2 4 0) 5) + (gI q11.2 4 9))) ((gR (sI q11.2 (gR q11.2 4 0) 5 ((gI q11.2 (gR q11.2 4 0) 5) + (gI q11.2 4 9))) 4 1) + 1) (((gI (sI q11.2 (gR q11.2 4 0) 5 ((gI q11.2 (gR q11.2 4 0) 5) + (gI q11.2 4 9))) 4 3) : Int32).toNatClampNeg) ((gI (sI q11.2 (gR q11.2 4 0) 5 ((gI q11.2 (gR q11.2 4 0) 5) + (gI q11.2 4 9))) ((gR (sI q11.2 (gR q11.2 4 0) 5 ((gI q11.2 (gR q11.2 4 0) 5) + (gI q11.2 4 9))) 4 1) + 1) (((gI (sI q11.2 (gR q11.2 4 0) 5 ((gI q11.2 (gR q11.2 4 0) 5) + (gI q11.2 4 9))) 4 3) : Int32).toNatClampNeg)) + (((gL (sI q11.2 (gR q11.2 4 0) 5 ((gI q11.2 (gR q11.2 4 0) 5) + (gI q11.2 4 9))) 4 12) : Int64).toInt32))) 4 3)) : Int32).toNatClampNeg)) - (((gL (sI (sI q11.2 (gR q11.2 4 0) 5 ((gI q11.2 (gR q11.2 4 0) 5) + (gI q11.2 4 9))) ((gR (sI q11.2 (gR q11.2 4 0) 5 ((gI q11.2 (gR q11.2 4 0) 5) + (gI q11.2 4 9))) 4 1) + 1) (((gI (sI q11.2 (gR q11.2 4 0) 5 ((gI q11.2 (gR q11.2 4 0) 5) + (gI q11.2 4 9))) 4 3) : Int32).toNatClampNeg) ((gI (sI q11.2 (gR q11.2 4 0) 5 ((gI q11.2 (gR q11.2 4 0) 5) + (gI q11.2 4 9))) ((gR (sI q11.2 (gR q11.2 4 0) 5 ((gI q11.2 (gR q11.2 4 0) 5) + (gI q11.2 4 9))) 4 1) + 1) (((gI (sI q11.2 (gR q11.2 4 0) 5 ((gI q11.2 (gR q11.2 4 0) 5) + (gI q11.2 4 9))) 4 3) : Int32).toNatClampNeg)) + (((gL (sI q11.2 (gR q11.2 4 0) 5 ((gI q11.2 (gR q11.2 4 0) 5) + (gI q11.2 4 9))) 4 12) : Int64).toInt32))) 4 11) : Int64).toInt32)))) else none) else none) else none) else none) else none) else none) else none))))
set_option maxRecDepth 20000 in
theorem c_X10_finish {l : Launch} {Γ : GG} (hI : Inj Γ) {p1 : Int32} {S : Mem} {q : Unit × Mem} (hf : f_X10_finish p1 S = some q) : MM l Γ yX10_finish cX10_finish 2 (none) 1 24 [aR 4, aI p1] S none q.2 := by
  refine met_of hI "TickPools$Trade" rfl (by decide +kernel) (Nat.le_of_ble_eq_true rfl) (fun X hX C hr => ?_)
  unfold f_X10_finish at hf
  show ZZ X Γ 2 _ S 0 [(0, aR 4), (1, aI p1)] []
  refine z_aload_n (j := 0) C d_X10_finish_0 rfl ?_
  refine zg_X10_real C rfl tw_240 d_X10_finish_1 ?_
  refine z_if_eq (tgt := 17) C d_X10_finish_4 (by decide) hf (fun c4 hf => ?_) (fun c4 hf => ?_)
  · exact z_sub [] rfl (t_X10_finish_17 C hr  _ hf)
  · refine z_aload_n (j := 0) C d_X10_finish_7 rfl ?_
    refine zg_X10_side C rfl tw_239 d_X10_finish_8 ?_
    obtain ⟨q11, hF, hf⟩ := bd hf
    refine z_callSN1 (rest := []) C [aI (gI S 4 3)] k_X11_isSide (nw_4) ⟨by decide, by decide⟩ (Nat.le_of_ble_eq_true rfl) d_X10_finish_11 (c_X11_isSide C.inj hF) rfl ?_
    refine z_if_ne (tgt := 18) C d_X10_finish_14 (by decide) hf (fun c14 hf => ?_) (fun c14 hf => ?_)
    · refine z_aload_n (j := 0) C d_X10_finish_18 rfl ?_
      refine zg_X10_market C rfl tw_236 d_X10_finish_19 ?_
      refine z_dup C d_X10_finish_22 rfl ?_
      obtain ⟨hg23_0, hf⟩ := gd hf
      refine zg_X2_crossed C hg23_0 tw_206 d_X10_finish_23 ?_
      refine z_aload_n (j := 0) C d_X10_finish_26 rfl ?_
      refine zg_X10_crossed C rfl tw_246 d_X10_finish_27 ?_
      refine z_iadd C d_X10_finish_30 ?_
      refine zp_X2_crossed C hg23_0 tw_206 d_X10_finish_31 ?_
      refine z_aload_n (j := 0) C d_X10_finish_34 rfl ?_
      refine zg_X10_pool C rfl tw_237 d_X10_finish_35 ?_
      obtain ⟨hg38_1, hf⟩ := gd hf
      refine zg_X4_held C hg38_1 tw_109 d_X10_finish_38 ?_
      refine z_aload_n (j := 0) C d_X10_finish_41 rfl ?_
      refine zg_X10_side C rfl tw_239 d_X10_finish_42 ?_
      refine z_dup2_11 C d_X10_finish_45 rfl rfl ?_
      obtain ⟨hi46_2, hf⟩ := gd hf
      refine z_iald C (kdP1 hg38_1) hi46_2 d_X10_finish_46 ?_
      refine z_aload_n (j := 0) C d_X10_finish_47 rfl ?_
      refine zg_X10_paid C rfl tw_255 d_X10_finish_48 ?_
      refine z_l2i C d_X10_finish_51 ?_
      refine z_iadd C d_X10_finish_52 ?_
      obtain ⟨hi53_3, hf⟩ := gd hf
      refine z_iast C (kdP1 hg38_1) hi53_3 d_X10_finish_53 ?_
      refine z_aload_n (j := 0) C d_X10_finish_54 rfl ?_
      refine zg_X10_pool C rfl tw_237 d_X10_finish_55 ?_
      obtain ⟨hg58_2, hf⟩ := gd hf
      refine zg_X4_held C hg58_2 tw_109 d_X10_finish_58 ?_
      refine z_iconst (v := 1) C d_X10_finish_61 (by decide) ?_
      refine z_aload_n (j := 0) C d_X10_finish_62 rfl ?_
      refine zg_X10_side C rfl tw_239 d_X10_finish_63 ?_
      refine z_isub C d_X10_finish_66 ?_
      refine z_dup2_11 C d_X10_finish_67 rfl rfl ?_
      obtain ⟨hi68_5, hf⟩ := gd hf
      refine z_iald C (kdP1 hg58_2) hi68_5 d_X10_finish_68 ?_
      refine z_aload_n (j := 0) C d_X10_finish_69 rfl ?_
      refine zg_X10_gave C rfl tw_251 d_X10_finish_70 ?_
      refine z_l2i C d_X10_finish_73 ?_
      refine z_isub C d_X10_finish_74 ?_
      obtain ⟨hi75_6, hf⟩ := gd hf
      refine z_iast C (kdP1 hg58_2) hi75_6 d_X10_finish_75 ?_
      exact z_sub [0, 1] rfl (t_X10_finish_76 C hr  _ _ hf)
    · exact z_sub [] rfl (t_X10_finish_17 C hr  _ hf)
