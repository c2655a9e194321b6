theorem d_X12_pool_0 : decode cX12_pool 0 = .ok (.aload_n 0, 1) := by decide +kernel
theorem d_X12_pool_1 : decode cX12_pool 1 = .ok (.iload_n 1, 1) := by decide +kernel
theorem d_X12_pool_2 : decode cX12_pool 2 = .ok (.invokevirtual 284, 3) := by decide +kernel
theorem d_X12_pool_5 : decode cX12_pool 5 = .ok (.ifCond .eq 15, 3) := by decide +kernel
theorem d_X12_pool_8 : decode cX12_pool 8 = .ok (.iload_n 2, 1) := by decide +kernel
theorem d_X12_pool_9 : decode cX12_pool 9 = .ok (.i2l, 1) := by decide +kernel
theorem d_X12_pool_10 : decode cX12_pool 10 = .ok (.lconst 0, 1) := by decide +kernel
theorem d_X12_pool_11 : decode cX12_pool 11 = .ok (.ldc2_w 503, 3) := by decide +kernel
theorem d_X12_pool_14 : decode cX12_pool 14 = .ok (.invokestatic 137, 3) := by decide +kernel
theorem d_X12_pool_17 : decode cX12_pool 17 = .ok (.ifCond .ne 5, 3) := by decide +kernel
theorem d_X12_pool_20 : decode cX12_pool 20 = .ok (.iconst (-1), 1) := by decide +kernel
theorem d_X12_pool_21 : decode cX12_pool 21 = .ok (.ireturn, 1) := by decide +kernel
theorem d_X12_pool_22 : decode cX12_pool 22 = .ok (.iload_n 2, 1) := by decide +kernel
theorem d_X12_pool_23 : decode cX12_pool 23 = .ok (.iconst 5, 1) := by decide +kernel
theorem d_X12_pool_24 : decode cX12_pool 24 = .ok (.if_icmp .ge 14, 3) := by decide +kernel
theorem d_X12_pool_27 : decode cX12_pool 27 = .ok (.aload_n 0, 1) := by decide +kernel
theorem d_X12_pool_28 : decode cX12_pool 28 = .ok (.getfield 13, 3) := by decide +kernel
theorem d_X12_pool_31 : decode cX12_pool 31 = .ok (.iconst 5, 1) := by decide +kernel
theorem d_X12_pool_32 : decode cX12_pool 32 = .ok (.iload_n 1, 1) := by decide +kernel
theorem d_X12_pool_33 : decode cX12_pool 33 = .ok (.imul, 1) := by decide +kernel
theorem d_X12_pool_34 : decode cX12_pool 34 = .ok (.iload_n 2, 1) := by decide +kernel
theorem d_X12_pool_35 : decode cX12_pool 35 = .ok (.iadd, 1) := by decide +kernel
theorem d_X12_pool_36 : decode cX12_pool 36 = .ok (.iaload, 1) := by decide +kernel
theorem d_X12_pool_37 : decode cX12_pool 37 = .ok (.ireturn, 1) := by decide +kernel
theorem d_X12_pool_38 : decode cX12_pool 38 = .ok (.iload_n 2, 1) := by decide +kernel
theorem d_X12_pool_39 : decode cX12_pool 39 = .ok (.tableswitch 93 5 11 #[41, 47, 55, 67, 67, 80, 80], 41) := by decide +kernel
theorem d_X12_pool_80 : decode cX12_pool 80 = .ok (.aload_n 0, 1) := by decide +kernel
theorem d_X12_pool_81 : decode cX12_pool 81 = .ok (.iload_n 1, 1) := by decide +kernel
theorem d_X12_pool_82 : decode cX12_pool 82 = .ok (.invokevirtual 228, 3) := by decide +kernel
theorem d_X12_pool_85 : decode cX12_pool 85 = .ok (.ireturn, 1) := by decide +kernel
theorem d_X12_pool_86 : decode cX12_pool 86 = .ok (.aload_n 0, 1) := by decide +kernel
theorem d_X12_pool_87 : decode cX12_pool 87 = .ok (.iload_n 1, 1) := by decide +kernel
theorem d_X12_pool_88 : decode cX12_pool 88 = .ok (.iconst 0, 1) := by decide +kernel
theorem d_X12_pool_89 : decode cX12_pool 89 = .ok (.invokevirtual 116, 3) := by decide +kernel
theorem d_X12_pool_92 : decode cX12_pool 92 = .ok (.l2i, 1) := by decide +kernel
theorem d_X12_pool_93 : decode cX12_pool 93 = .ok (.ireturn, 1) := by decide +kernel
theorem d_X12_pool_94 : decode cX12_pool 94 = .ok (.aload_n 0, 1) := by decide +kernel
theorem d_X12_pool_95 : decode cX12_pool 95 = .ok (.iload_n 1, 1) := by decide +kernel
theorem d_X12_pool_96 : decode cX12_pool 96 = .ok (.aload_n 0, 1) := by decide +kernel
theorem d_X12_pool_97 : decode cX12_pool 97 = .ok (.iload_n 1, 1) := by decide +kernel
theorem d_X12_pool_98 : decode cX12_pool 98 = .ok (.invokevirtual 228, 3) := by decide +kernel
theorem d_X12_pool_101 : decode cX12_pool 101 = .ok (.invokevirtual 316, 3) := by decide +kernel
theorem d_X12_pool_104 : decode cX12_pool 104 = .ok (.l2i, 1) := by decide +kernel
theorem d_X12_pool_105 : decode cX12_pool 105 = .ok (.ireturn, 1) := by decide +kernel
theorem d_X12_pool_106 : decode cX12_pool 106 = .ok (.aload_n 0, 1) := by decide +kernel
theorem d_X12_pool_107 : decode cX12_pool 107 = .ok (.iload_n 1, 1) := by decide +kernel
theorem d_X12_pool_108 : decode cX12_pool 108 = .ok (.iconst 2, 1) := by decide +kernel
theorem d_X12_pool_109 : decode cX12_pool 109 = .ok (.iload_n 2, 1) := by decide +kernel
theorem d_X12_pool_110 : decode cX12_pool 110 = .ok (.iadd, 1) := by decide +kernel
theorem d_X12_pool_111 : decode cX12_pool 111 = .ok (.bipush 8, 2) := by decide +kernel
theorem d_X12_pool_113 : decode cX12_pool 113 = .ok (.isub, 1) := by decide +kernel
theorem d_X12_pool_114 : decode cX12_pool 114 = .ok (.invokevirtual 116, 3) := by decide +kernel
theorem d_X12_pool_117 : decode cX12_pool 117 = .ok (.l2i, 1) := by decide +kernel
theorem d_X12_pool_118 : decode cX12_pool 118 = .ok (.ireturn, 1) := by decide +kernel
theorem d_X12_pool_119 : decode cX12_pool 119 = .ok (.aload_n 0, 1) := by decide +kernel
theorem d_X12_pool_120 : decode cX12_pool 120 = .ok (.iload_n 1, 1) := by decide +kernel
theorem d_X12_pool_121 : decode cX12_pool 121 = .ok (.iconst 4, 1) := by decide +kernel
theorem d_X12_pool_122 : decode cX12_pool 122 = .ok (.iload_n 2, 1) := by decide +kernel
theorem d_X12_pool_123 : decode cX12_pool 123 = .ok (.iadd, 1) := by decide +kernel
theorem d_X12_pool_124 : decode cX12_pool 124 = .ok (.bipush 10, 2) := by decide +kernel
theorem d_X12_pool_126 : decode cX12_pool 126 = .ok (.isub, 1) := by decide +kernel
theorem d_X12_pool_127 : decode cX12_pool 127 = .ok (.invokevirtual 116, 3) := by decide +kernel
theorem d_X12_pool_130 : decode cX12_pool 130 = .ok (.l2i, 1) := by decide +kernel
theorem d_X12_pool_131 : decode cX12_pool 131 = .ok (.ireturn, 1) := by decide +kernel
theorem d_X12_pool_132 : decode cX12_pool 132 = .ok (.aload_n 0, 1) := by decide +kernel
theorem d_X12_pool_133 : decode cX12_pool 133 = .ok (.iload_n 1, 1) := by decide +kernel
theorem d_X12_pool_134 : decode cX12_pool 134 = .ok (.iload_n 2, 1) := by decide +kernel
theorem d_X12_pool_135 : decode cX12_pool 135 = .ok (.bipush 12, 2) := by decide +kernel
theorem d_X12_pool_137 : decode cX12_pool 137 = .ok (.isub, 1) := by decide +kernel
theorem d_X12_pool_138 : decode cX12_pool 138 = .ok (.invokevirtual 505, 3) := by decide +kernel
theorem d_X12_pool_141 : decode cX12_pool 141 = .ok (.l2i, 1) := by decide +kernel
theorem d_X12_pool_142 : decode cX12_pool 142 = .ok (.ireturn, 1) := by decide +kernel
def f_X12_pool_20 (S : Mem) : Option (Int32 × Mem) := (some ((-1), S))
set_option maxRecDepth 20000 in
theorem t_X12_pool_20 {X : MC} {Γ : GG} (C : CX X Γ cX12_pool 3 "TickPoolsModel" 4 108) (hr : X.2.2.2.2.2.2.2.2.1.sig.returnType = some .int) {q : Int32 × Mem} (S : Mem) (hf : f_X12_pool_20 S = some q) : ZZ X Γ 3 (QQ X Γ (some (aI q.1)) q.2) S 20 [] [] := by
  unfold f_X12_pool_20 at hf
  refine z_iconst (v := (-1)) C d_X12_pool_20 (by decide) ?_
  exact r_i C hr rfl d_X12_pool_21 hf
def f_X12_pool_106 (v1 : Int32) (v2 : Int32) (S : Mem) : Option (Int32 × Mem) := ((f_X12_ofPool v1 ((2 + v2) - 8) S).bind fun q114 => (some (((q114.1 : Int64).toInt32), q114.2)))
set_option maxRecDepth 20000 in
theorem t_X12_pool_106 {X : MC} {Γ : GG} (C : CX X Γ cX12_pool 3 "TickPoolsModel" 4 108) (hr : X.2.2.2.2.2.2.2.2.1.sig.returnType = some .int) {q : Int32 × Mem} (v1 : Int32) (v2 : Int32) (S : Mem) (hf : f_X12_pool_106 v1 v2 S = some q) : ZZ X Γ 3 (QQ X Γ (some (aI q.1)) q.2) S 106 [(0, aR 20), (1, aI v1), (2, aI v2)] [] := by
  unfold f_X12_pool_106 at hf
  refine z_aload_n (j := 0) C d_X12_pool_106 rfl ?_
  refine z_iload_n (j := 1) C d_X12_pool_107 rfl ?_
  refine z_iconst (v := 2) C d_X12_pool_108 (by decide) ?_
  refine z_iload_n (j := 2) C d_X12_pool_109 rfl ?_
  refine z_iadd C d_X12_pool_110 ?_
  refine z_bipush (v := 8) C d_X12_pool_111 (by decide) ?_
  refine z_isub C d_X12_pool_113 ?_
  obtain ⟨q114, hF, hf⟩ := bd hf
  refine z_callV1 (rest := []) C [aI v1, aI ((2 + v2) - 8)] rfl (by decide) rfl rfl k_X12_ofPool tw_1503 ⟨by decide, by decide⟩ (Nat.le_of_ble_eq_true rfl) d_X12_pool_114 (c_X12_ofPool C.inj hF) rfl ?_
  refine z_l2i C d_X12_pool_117 ?_
  exact r_i C hr rfl d_X12_pool_118 hf
def f_X12_pool_119 (v1 : Int32) (v2 : Int32) (S : Mem) : Option (Int32 × Mem) := ((f_X12_ofPool v1 ((4 + v2) - 10) S).bind fun q127 => (some (((q127.1 : Int64).toInt32), q127.2)))
set_option maxRecDepth 20000 in
theorem t_X12_pool_119 {X : MC} {Γ : GG} (C : CX X Γ cX12_pool 3 "TickPoolsModel" 4 108) (hr : X.2.2.2.2.2.2.2.2.1.sig.returnType = some .int) {q : Int32 × Mem} (v1 : Int32) (v2 : Int32) (S : Mem) (hf : f_X12_pool_119 v1 v2 S = some q) : ZZ X Γ 3 (QQ X Γ (some (aI q.1)) q.2) S 119 [(0, aR 20), (1, aI v1), (2, aI v2)] [] := by
  unfold f_X12_pool_119 at hf
  refine z_aload_n (j := 0) C d_X12_pool_119 rfl ?_
  refine z_iload_n (j := 1) C d_X12_pool_120 rfl ?_
  refine z_iconst (v := 4) C d_X12_pool_121 (by decide) ?_
  refine z_iload_n (j := 2) C d_X12_pool_122 rfl ?_
  refine z_iadd C d_X12_pool_123 ?_
  refine z_bipush (v := 10) C d_X12_pool_124 (by decide) ?_
  refine z_isub C d_X12_pool_126 ?_
  obtain ⟨q127, hF, hf⟩ := bd hf
  refine z_callV1 (rest := []) C [aI v1, aI ((4 + v2) - 10)] rfl (by decide) rfl rfl k_X12_ofPool tw_1503 ⟨by decide, by decide⟩ (Nat.le_of_ble_eq_true rfl) d_X12_pool_127 (c_X12_ofPool C.inj hF) rfl ?_
  refine z_l2i C d_X12_pool_130 ?_
  exact r_i C hr rfl d_X12_pool_131 hf
/-- TickPoolsModel.pool(II)I -/
def f_X12_pool (p1 : Int32) (p2 : Int32) (S : Mem) : Option (Int32 × Mem) := ((f_X12_isPool p1 S).bind fun q2 => (if q2.1 = 0 then (f_X12_pool_20  q2.2) else ((f_X12_isIn (p2.toInt64) 0 13 q2.2).bind fun q14 => (if q14.1 = 0 then (f_X12_pool_20  q14.2) else (if 5 ≤ p2 then (if p2 = 5 then ((f_X12_zoneNow p1 q14.2).bind fun q82 => (some (q82.1, q82.2))) else (if p2 = 6 then ((f_X12_ofPool p1 0 q14.2).bind fun q89 => (some (((q89.1 : Int64).toInt32), q89.2))) else (if p2 = 7 then ((f_X12_zoneNow p1 q14.2).bind fun q98 => ((f_X12_depthOf p1 q98.1 q98.2).bind fun q101 => (some (((q101.1 : Int64).toInt32), q101.2)))) else (if p2 = 8 then (f_X12_pool_106  p1 p2 q14.2) else (if p2 = 9 then (f_X12_pool_106  p1 p2 q14.2) else (if p2 = 10 then (f_X12_pool_119  p1 p2 q14.2) else (if p2 = 11 then (f_X12_pool_119  p1 p2 q14.2) else ((f_X12_overIn p1 (p2 - 12) q14.2).bind fun q138 => (some (((q138.1 : Int64).toInt32), q138.2)))))))))) else (if inb ((5 * p1) + p2) 25 = true then (some ((gI q14.2 22 ((((5 * p1) + p2) : Int32).toNatClampNeg)), q14.2)) else none))))))
set_option maxRecDepth 20000 in
theorem c_X12_pool {l : Launch} {Γ : GG} (hI : Inj Γ) {p1 : Int32} {p2 : Int32} {S : Mem} {q : Int32 × Mem} (hf : f_X12_pool p1 p2 S = some q) : MM l Γ yX12_pool cX12_pool 3 (some .int) 4 108 [aR 20, aI p1, aI p2] S (some (aI q.1)) q.2 := by
  refine met_of hI "TickPoolsModel" rfl (by decide +kernel) (Nat.le_of_ble_eq_true rfl) (fun X hX C hr => ?_)
  unfold f_X12_pool at hf
  show ZZ X Γ 3 _ S 0 [(0, aR 20), (1, aI p1), (2, aI p2)] []
  refine z_aload_n (j := 0) C d_X12_pool_0 rfl ?_
  refine z_iload_n (j := 1) C d_X12_pool_1 rfl ?_
  obtain ⟨q2, hF, hf⟩ := bd hf
  refine z_callV1 (rest := []) C [aI p1] rfl (by decide) rfl rfl k_X12_isPool tw_1471 ⟨by decide, by decide⟩ (Nat.le_of_ble_eq_true rfl) d_X12_pool_2 (c_X12_isPool C.inj hF) rfl ?_
  refine z_if_eq (tgt := 20) C d_X12_pool_5 (by decide) hf (fun c5 hf => ?_) (fun c5 hf => ?_)
  · exact z_sub [] rfl (t_X12_pool_20 C hr  _ hf)
  · refine z_iload_n (j := 2) C d_X12_pool_8 rfl ?_
    refine z_i2l C d_X12_pool_9 ?_
    refine z_lconst (v := 0) C d_X12_pool_10 (by decide) ?_
    refine z_ldc2 (v := 13) C tw_1780 d_X12_pool_11 ?_
    obtain ⟨q14, hF, hf⟩ := bd hf
    refine z_callS1 (rest := []) C [aJ (p2.toInt64), aJ 0, aJ 13] k_X12_isIn tw_1385 ⟨by decide, by decide⟩ (Nat.le_of_ble_eq_true rfl) d_X12_pool_14 (c_X12_isIn C.inj hF) rfl ?_
    refine z_if_ne (tgt := 22) C d_X12_pool_17 (by decide) hf (fun c17 hf => ?_) (fun c17 hf => ?_)
    · refine z_iload_n (j := 2) C d_X12_pool_22 rfl ?_
      refine z_iconst (v := 5) C d_X12_pool_23 (by decide) ?_
      refine z_icmp_ge (tgt := 38) C d_X12_pool_24 (by decide) hf (fun c24 hf => ?_) (fun c24 hf => ?_)
      · refine z_iload_n (j := 2) C d_X12_pool_38 rfl ?_
        by_cases c39_5 : p2 = 5
        · rw [if_pos c39_5] at hf
          refine z_tin (tgt := 80) C d_X12_pool_39 (by rw [c39_5]; decide) (by rw [c39_5]; decide) (by rw [c39_5]; rfl) (by decide) ?_
          refine z_aload_n (j := 0) C d_X12_pool_80 rfl ?_
          refine z_iload_n (j := 1) C d_X12_pool_81 rfl ?_
          obtain ⟨q82, hF, hf⟩ := bd hf
          refine z_callV1 (rest := []) C [aI p1] rfl (by decide) rfl rfl k_X12_zoneNow tw_1499 ⟨by decide, by decide⟩ (Nat.le_of_ble_eq_true rfl) d_X12_pool_82 (c_X12_zoneNow C.inj hF) rfl ?_
          exact r_i C hr rfl d_X12_pool_85 hf
        rw [if_neg c39_5] at hf
        have d39_5 := tn (n := 5) c39_5 (by decide)
        by_cases c39_6 : p2 = 6
        · rw [if_pos c39_6] at hf
          refine z_tin (tgt := 86) C d_X12_pool_39 (by rw [c39_6]; decide) (by rw [c39_6]; decide) (by rw [c39_6]; rfl) (by decide) ?_
          refine z_aload_n (j := 0) C d_X12_pool_86 rfl ?_
          refine z_iload_n (j := 1) C d_X12_pool_87 rfl ?_
          refine z_iconst (v := 0) C d_X12_pool_88 (by decide) ?_
          obtain ⟨q89, hF, hf⟩ := bd hf
          refine z_callV1 (rest := []) C [aI p1, aI 0] rfl (by decide) rfl rfl k_X12_ofPool tw_1503 ⟨by decide, by decide⟩ (Nat.le_of_ble_eq_true rfl) d_X12_pool_89 (c_X12_ofPool C.inj hF) rfl ?_
          refine z_l2i C d_X12_pool_92 ?_
          exact r_i C hr rfl d_X12_pool_93 hf
        rw [if_neg c39_6] at hf
        have d39_6 := tn (n := 6) c39_6 (by decide)
        by_cases c39_7 : p2 = 7
        · rw [if_pos c39_7] at hf
          refine z_tin (tgt := 94) C d_X12_pool_39 (by rw [c39_7]; decide) (by rw [c39_7]; decide) (by rw [c39_7]; rfl) (by decide) ?_
          refine z_aload_n (j := 0) C d_X12_pool_94 rfl ?_
          refine z_iload_n (j := 1) C d_X12_pool_95 rfl ?_
          refine z_aload_n (j := 0) C d_X12_pool_96 rfl ?_
          refine z_iload_n (j := 1) C d_X12_pool_97 rfl ?_
          obtain ⟨q98, hF, hf⟩ := bd hf
          refine z_callV1 (rest := [aI p1, aR 20]) C [aI p1] rfl (by decide) rfl rfl k_X12_zoneNow tw_1499 ⟨by decide, by decide⟩ (Nat.le_of_ble_eq_true rfl) d_X12_pool_98 (c_X12_zoneNow C.inj hF) rfl ?_
          obtain ⟨q101, hF, hf⟩ := bd hf
          refine z_callV1 (rest := []) C [aI p1, aI q98.1] rfl (by decide) rfl rfl k_X12_depthOf tw_1620 ⟨by decide, by decide⟩ (Nat.le_of_ble_eq_true rfl) d_X12_pool_101 (c_X12_depthOf C.inj hF) rfl ?_
          refine z_l2i C d_X12_pool_104 ?_
          exact r_i C hr rfl d_X12_pool_105 hf
        rw [if_neg c39_7] at hf
        have d39_7 := tn (n := 7) c39_7 (by decide)
        by_cases c39_8 : p2 = 8
        · rw [if_pos c39_8] at hf
          refine z_tin (tgt := 106) C d_X12_pool_39 (by rw [c39_8]; decide) (by rw [c39_8]; decide) (by rw [c39_8]; rfl) (by decide) ?_
          exact z_sub [0, 1, 2] rfl (t_X12_pool_106 C hr  _ _ _ hf)
        rw [if_neg c39_8] at hf
        have d39_8 := tn (n := 8) c39_8 (by decide)
        by_cases c39_9 : p2 = 9
        · rw [if_pos c39_9] at hf
          refine z_tin (tgt := 106) C d_X12_pool_39 (by rw [c39_9]; decide) (by rw [c39_9]; decide) (by rw [c39_9]; rfl) (by decide) ?_
          exact z_sub [0, 1, 2] rfl (t_X12_pool_106 C hr  _ _ _ hf)
        rw [if_neg c39_9] at hf
        have d39_9 := tn (n := 9) c39_9 (by decide)
        by_cases c39_10 : p2 = 10
        · rw [if_pos c39_10] at hf
          refine z_tin (tgt := 119) C d_X12_pool_39 (by rw [c39_10]; decide) (by rw [c39_10]; decide) (by rw [c39_10]; rfl) (by decide) ?_
          exact z_sub [0, 1, 2] rfl (t_X12_pool_119 C hr  _ _ _ hf)
        rw [if_neg c39_10] at hf
        have d39_10 := tn (n := 10) c39_10 (by decide)
        by_cases c39_11 : p2 = 11
        · rw [if_pos c39_11] at hf
          refine z_tin (tgt := 119) C d_X12_pool_39 (by rw [c39_11]; decide) (by rw [c39_11]; decide) (by rw [c39_11]; rfl) (by decide) ?_
          exact z_sub [0, 1, 2] rfl (t_X12_pool_119 C hr  _ _ _ hf)
        rw [if_neg c39_11] at hf
        have d39_11 := tn (n := 11) c39_11 (by decide)
        refine z_tout (tgt := 132) C d_X12_pool_39 (by omega) (by decide) ?_
        refine z_aload_n (j := 0) C d_X12_pool_132 rfl ?_
        refine z_iload_n (j := 1) C d_X12_pool_133 rfl ?_
        refine z_iload_n (j := 2) C d_X12_pool_134 rfl ?_
        refine z_bipush (v := 12) C d_X12_pool_135 (by decide) ?_
        refine z_isub C d_X12_pool_137 ?_
        obtain ⟨q138, hF, hf⟩ := bd hf
        refine z_callV1 (rest := []) C [aI p1, aI (p2 - 12)] rfl (by decide) rfl rfl k_X12_overIn tw_1781 ⟨by decide, by decide⟩ (Nat.le_of_ble_eq_true rfl) d_X12_pool_138 (c_X12_overIn C.inj hF) rfl ?_
        refine z_l2i C d_X12_pool_141 ?_
        exact r_i C hr rfl d_X12_pool_142 hf
      · refine z_aload_n (j := 0) C d_X12_pool_27 rfl ?_
        refine zg_X12_told C rfl tw_1215 d_X12_pool_28 ?_
        refine z_iconst (v := 5) C d_X12_pool_31 (by decide) ?_
        refine z_iload_n (j := 1) C d_X12_pool_32 rfl ?_
        refine z_imul C d_X12_pool_33 ?_
        refine z_iload_n (j := 2) C d_X12_pool_34 rfl ?_
        refine z_iadd C d_X12_pool_35 ?_
        obtain ⟨hi36_0, hf⟩ := gd hf
        refine z_iald C rfl hi36_0 d_X12_pool_36 ?_
        exact r_i C hr rfl d_X12_pool_37 hf
    · exact z_sub [] rfl (t_X12_pool_20 C hr  _ hf)
theorem d_X12_depth_0 : decode cX12_depth 0 = .ok (.aload_n 0, 1) := by decide +kernel
theorem d_X12_depth_1 : decode cX12_depth 1 = .ok (.iload_n 1, 1) := by decide +kernel
theorem d_X12_depth_2 : decode cX12_depth 2 = .ok (.invokevirtual 284, 3) := by decide +kernel
theorem d_X12_depth_5 : decode cX12_depth 5 = .ok (.ifCond .eq 25, 3) := by decide +kernel
theorem d_X12_depth_8 : decode cX12_depth 8 = .ok (.iload_n 2, 1) := by decide +kernel
theorem d_X12_depth_9 : decode cX12_depth 9 = .ok (.i2l, 1) := by decide +kernel
theorem d_X12_depth_10 : decode cX12_depth 10 = .ok (.lconst 0, 1) := by decide +kernel
theorem d_X12_depth_11 : decode cX12_depth 11 = .ok (.ldc2_w 508, 3) := by decide +kernel
theorem d_X12_depth_14 : decode cX12_depth 14 = .ok (.invokestatic 137, 3) := by decide +kernel
theorem d_X12_depth_17 : decode cX12_depth 17 = .ok (.ifCond .eq 13, 3) := by decide +kernel
theorem d_X12_depth_20 : decode cX12_depth 20 = .ok (.aload_n 0, 1) := by decide +kernel
theorem d_X12_depth_21 : decode cX12_depth 21 = .ok (.iload_n 1, 1) := by decide +kernel
theorem d_X12_depth_22 : decode cX12_depth 22 = .ok (.iload_n 2, 1) := by decide +kernel
theorem d_X12_depth_23 : decode cX12_depth 23 = .ok (.invokevirtual 316, 3) := by decide +kernel
theorem d_X12_depth_26 : decode cX12_depth 26 = .ok (.l2i, 1) := by decide +kernel
theorem d_X12_depth_27 : decode cX12_depth 27 = .ok (.goto 4, 3) := by decide +kernel
theorem d_X12_depth_30 : decode cX12_depth 30 = .ok (.iconst (-1), 1) := by decide +kernel
theorem d_X12_depth_31 : decode cX12_depth 31 = .ok (.ireturn, 1) := by decide +kernel
def f_X12_depth_31 (s0 : Int32) (S : Mem) : Option (Int32 × Mem) := (some (s0, S))
set_option maxRecDepth 20000 in
theorem t_X12_depth_31 {X : MC} {Γ : GG} (C : CX X Γ cX12_depth 3 "TickPoolsModel" 3 70) (hr : X.2.2.2.2.2.2.2.2.1.sig.returnType = some .int) {q : Int32 × Mem} (s0 : Int32) (S : Mem) (hf : f_X12_depth_31 s0 S = some q) : ZZ X Γ 3 (QQ X Γ (some (aI q.1)) q.2) S 31 [] [aI s0] := by
  unfold f_X12_depth_31 at hf
  exact r_i C hr rfl d_X12_depth_31 hf
def f_X12_depth_30 (S : Mem) : Option (Int32 × Mem) := (f_X12_depth_31  (-1) S)
set_option maxRecDepth 20000 in
theorem t_X12_depth_30 {X : MC} {Γ : GG} (C : CX X Γ cX12_depth 3 "TickPoolsModel" 3 70) (hr : X.2.2.2.2.2.2.2.2.1.sig.returnType = some .int) {q : Int32 × Mem} (S : Mem) (hf : f_X12_depth_30 S = some q) : ZZ X Γ 3 (QQ X Γ (some (aI q.1)) q.2) S 30 [] [] := by
  unfold f_X12_depth_30 at hf
  refine z_iconst (v := (-1)) C d_X12_depth_30 (by decide) ?_
  exact z_sub [] rfl (t_X12_depth_31 C hr  _ _ hf)
/-- TickPoolsModel.depth(II)I -/
def f_X12_depth (p1 : Int32) (p2 : Int32) (S : Mem) : Option (Int32 × Mem) := ((f_X12_isPool p1 S).bind fun q2 => (if q2.1 = 0 then (f_X12_depth_30  q2.2) else ((f_X12_isIn (p2.toInt64) 0 39 q2.2).bind fun q14 => (if q14.1 = 0 then (f_X12_depth_30  q14.2) else ((f_X12_depthOf p1 p2 q14.2).bind fun q23 => (f_X12_depth_31  ((q23.1 : Int64).toInt32) q23.2))))))
set_option maxRecDepth 20000 in
theorem c_X12_depth {l : Launch} {Γ : GG} (hI : Inj Γ) {p1 : Int32} {p2 : Int32} {S : Mem} {q : Int32 × Mem} (hf : f_X12_depth p1 p2 S = some q) : MM l Γ yX12_depth cX12_depth 3 (some .int) 3 70 [aR 20, aI p1, aI p2] S (some (aI q.1)) q.2 := by
  refine met_of hI "TickPoolsModel" rfl (by decide +kernel) (Nat.le_of_ble_eq_true rfl) (fun X hX C hr => ?_)
  unfold f_X12_depth at hf
  show ZZ X Γ 3 _ S 0 [(0, aR 20), (1, aI p1), (2, aI p2)] []
  refine z_aload_n (j := 0) C d_X12_depth_0 rfl ?_
  refine z_iload_n (j := 1) C d_X12_depth_1 rfl ?_
  obtain ⟨q2, hF, hf⟩ := bd hf
  refine z_callV1 (rest := []) C [aI p1] rfl (by decide) rfl rfl k_X12_isPool tw_1471 ⟨by decide, by decide⟩ (Nat.le_of_ble_eq_true rfl) d_X12_depth_2 (c_X12_isPool C.inj hF) rfl ?_
  refine z_if_eq (tgt := 30) C d_X12_depth_5 (by decide) hf (fun c5 hf => ?_) (fun c5 hf => ?_)
  · exact z_sub [] rfl (t_X12_depth_30 C hr  _ hf)
  · refine z_iload_n (j := 2) C d_X12_depth_8 rfl ?_
    refine z_i2l C d_X12_depth_9 ?_
    refine z_lconst (v := 0) C d_X12_depth_10 (by decide) ?_
    refine z_ldc2 (v := 39) C tw_1789 d_X12_depth_11 ?_
    obtain ⟨q14, hF, hf⟩ := bd hf
    refine z_callS1 (rest := []) C [aJ (p2.toInt64), aJ 0, aJ 39] k_X12_isIn tw_1385 ⟨by decide, by decide⟩ (Nat.le_of_ble_eq_true rfl) d_X12_depth_14 (c_X12_isIn C.inj hF) rfl ?_
    refine z_if_eq (tgt := 30) C d_X12_depth_17 (by decide) hf (fun c17 hf => ?_) (fun c17 hf => ?_)
    · exact z_sub [] rfl (t_X12_depth_30 C hr  _ hf)
    · refine z_aload_n (j := 0) C d_X12_depth_20 rfl ?_
      refine z_iload_n (j := 1) C d_X12_depth_21 rfl ?_
      refine z_iload_n (j := 2) C d_X12_depth_22 rfl ?_
      obtain ⟨q23, hF, hf⟩ := bd hf
      refine z_callV1 (rest := []) C [aI p1, aI p2] rfl (by decide) rfl rfl k_X12_depthOf tw_1620 ⟨by decide, by decide⟩ (Nat.le_of_ble_eq_true rfl) d_X12_depth_23 (c_X12_depthOf C.inj hF) rfl ?_
      refine z_l2i C d_X12_depth_26 ?_
      refine z_goto (tgt := 31) C d_X12_depth_27 (by decide) ?_
      exact z_sub [] rfl (t_X12_depth_31 C hr  _ _ hf)
theorem d_X12_stake_0 : decode cX12_stake 0 = .ok (.aload_n 0, 1) := by decide +kernel
theorem d_X12_stake_1 : decode cX12_stake 1 = .ok (.iload_n 1, 1) := by decide +kernel
theorem d_X12_stake_2 : decode cX12_stake 2 = .ok (.invokevirtual 307, 3) := by decide +kernel
theorem d_X12_stake_5 : decode cX12_stake 5 = .ok (.ifCond .eq 15, 3) := by decide +kernel
theorem d_X12_stake_8 : decode cX12_stake 8 = .ok (.iload_n 2, 1) := by decide +kernel
theorem d_X12_stake_9 : decode cX12_stake 9 = .ok (.i2l, 1) := by decide +kernel
theorem d_X12_stake_10 : decode cX12_stake 10 = .ok (.lconst 0, 1) := by decide +kernel
theorem d_X12_stake_11 : decode cX12_stake 11 = .ok (.ldc2_w 112, 3) := by decide +kernel
theorem d_X12_stake_14 : decode cX12_stake 14 = .ok (.invokestatic 137, 3) := by decide +kernel
theorem d_X12_stake_17 : decode cX12_stake 17 = .ok (.ifCond .ne 5, 3) := by decide +kernel
theorem d_X12_stake_20 : decode cX12_stake 20 = .ok (.iconst (-1), 1) := by decide +kernel
theorem d_X12_stake_21 : decode cX12_stake 21 = .ok (.ireturn, 1) := by decide +kernel
theorem d_X12_stake_22 : decode cX12_stake 22 = .ok (.iload_n 2, 1) := by decide +kernel
theorem d_X12_stake_23 : decode cX12_stake 23 = .ok (.bipush 6, 2) := by decide +kernel
theorem d_X12_stake_25 : decode cX12_stake 25 = .ok (.if_icmp .ge 11, 3) := by decide +kernel
theorem d_X12_stake_28 : decode cX12_stake 28 = .ok (.aload_n 0, 1) := by decide +kernel
theorem d_X12_stake_29 : decode cX12_stake 29 = .ok (.iload_n 1, 1) := by decide +kernel
theorem d_X12_stake_30 : decode cX12_stake 30 = .ok (.iload_n 2, 1) := by decide +kernel
theorem d_X12_stake_31 : decode cX12_stake 31 = .ok (.invokevirtual 238, 3) := by decide +kernel
theorem d_X12_stake_34 : decode cX12_stake 34 = .ok (.l2i, 1) := by decide +kernel
theorem d_X12_stake_35 : decode cX12_stake 35 = .ok (.ireturn, 1) := by decide +kernel
theorem d_X12_stake_36 : decode cX12_stake 36 = .ok (.aload_n 0, 1) := by decide +kernel
theorem d_X12_stake_37 : decode cX12_stake 37 = .ok (.iload_n 1, 1) := by decide +kernel
theorem d_X12_stake_38 : decode cX12_stake 38 = .ok (.iconst 1, 1) := by decide +kernel
theorem d_X12_stake_39 : decode cX12_stake 39 = .ok (.invokevirtual 238, 3) := by decide +kernel
theorem d_X12_stake_42 : decode cX12_stake 42 = .ok (.l2i, 1) := by decide +kernel
theorem d_X12_stake_43 : decode cX12_stake 43 = .ok (.istore_n 3, 1) := by decide +kernel
theorem d_X12_stake_44 : decode cX12_stake 44 = .ok (.iload_n 2, 1) := by decide +kernel
theorem d_X12_stake_45 : decode cX12_stake 45 = .ok (.bipush 8, 2) := by decide +kernel
theorem d_X12_stake_47 : decode cX12_stake 47 = .ok (.if_icmp .ge 35, 3) := by decide +kernel
theorem d_X12_stake_50 : decode cX12_stake 50 = .ok (.aload_n 0, 1) := by decide +kernel
theorem d_X12_stake_51 : decode cX12_stake 51 = .ok (.iload_n 3, 1) := by decide +kernel
theorem d_X12_stake_52 : decode cX12_stake 52 = .ok (.aload_n 0, 1) := by decide +kernel
theorem d_X12_stake_53 : decode cX12_stake 53 = .ok (.iload_n 1, 1) := by decide +kernel
theorem d_X12_stake_54 : decode cX12_stake 54 = .ok (.iconst 2, 1) := by decide +kernel
theorem d_X12_stake_55 : decode cX12_stake 55 = .ok (.invokevirtual 238, 3) := by decide +kernel
theorem d_X12_stake_58 : decode cX12_stake 58 = .ok (.l2i, 1) := by decide +kernel
theorem d_X12_stake_59 : decode cX12_stake 59 = .ok (.aload_n 0, 1) := by decide +kernel
theorem d_X12_stake_60 : decode cX12_stake 60 = .ok (.iload_n 1, 1) := by decide +kernel
theorem d_X12_stake_61 : decode cX12_stake 61 = .ok (.iconst 3, 1) := by decide +kernel
theorem d_X12_stake_62 : decode cX12_stake 62 = .ok (.invokevirtual 238, 3) := by decide +kernel
theorem d_X12_stake_65 : decode cX12_stake 65 = .ok (.l2i, 1) := by decide +kernel
theorem d_X12_stake_66 : decode cX12_stake 66 = .ok (.aload_n 0, 1) := by decide +kernel
theorem d_X12_stake_67 : decode cX12_stake 67 = .ok (.iload_n 1, 1) := by decide +kernel
theorem d_X12_stake_68 : decode cX12_stake 68 = .ok (.iconst 5, 1) := by decide +kernel
theorem d_X12_stake_69 : decode cX12_stake 69 = .ok (.invokevirtual 238, 3) := by decide +kernel
theorem d_X12_stake_72 : decode cX12_stake 72 = .ok (.iload_n 2, 1) := by decide +kernel
theorem d_X12_stake_73 : decode cX12_stake 73 = .ok (.bipush 6, 2) := by decide +kernel
theorem d_X12_stake_75 : decode cX12_stake 75 = .ok (.isub, 1) := by decide +kernel
theorem d_X12_stake_76 : decode cX12_stake 76 = .ok (.iconst 0, 1) := by decide +kernel
theorem d_X12_stake_77 : decode cX12_stake 77 = .ok (.invokevirtual 271, 3) := by decide +kernel
theorem d_X12_stake_80 : decode cX12_stake 80 = .ok (.l2i, 1) := by decide +kernel
theorem d_X12_stake_81 : decode cX12_stake 81 = .ok (.ireturn, 1) := by decide +kernel
theorem d_X12_stake_82 : decode cX12_stake 82 = .ok (.iload_n 2, 1) := by decide +kernel
theorem d_X12_stake_83 : decode cX12_stake 83 = .ok (.bipush 10, 2) := by decide +kernel
theorem d_X12_stake_85 : decode cX12_stake 85 = .ok (.if_icmp .ge 14, 3) := by decide +kernel
theorem d_X12_stake_88 : decode cX12_stake 88 = .ok (.aload_n 0, 1) := by decide +kernel
theorem d_X12_stake_89 : decode cX12_stake 89 = .ok (.iload_n 1, 1) := by decide +kernel
theorem d_X12_stake_90 : decode cX12_stake 90 = .ok (.iload_n 2, 1) := by decide +kernel
theorem d_X12_stake_91 : decode cX12_stake 91 = .ok (.bipush 8, 2) := by decide +kernel
theorem d_X12_stake_93 : decode cX12_stake 93 = .ok (.isub, 1) := by decide +kernel
theorem d_X12_stake_94 : decode cX12_stake 94 = .ok (.invokevirtual 247, 3) := by decide +kernel
theorem d_X12_stake_97 : decode cX12_stake 97 = .ok (.l2i, 1) := by decide +kernel
theorem d_X12_stake_98 : decode cX12_stake 98 = .ok (.ireturn, 1) := by decide +kernel
theorem d_X12_stake_99 : decode cX12_stake 99 = .ok (.aload_n 0, 1) := by decide +kernel
theorem d_X12_stake_100 : decode cX12_stake 100 = .ok (.iload_n 1, 1) := by decide +kernel
theorem d_X12_stake_101 : decode cX12_stake 101 = .ok (.iload_n 3, 1) := by decide +kernel
theorem d_X12_stake_102 : decode cX12_stake 102 = .ok (.aload_n 0, 1) := by decide +kernel
theorem d_X12_stake_103 : decode cX12_stake 103 = .ok (.iload_n 3, 1) := by decide +kernel
theorem d_X12_stake_104 : decode cX12_stake 104 = .ok (.invokevirtual 228, 3) := by decide +kernel
theorem d_X12_stake_107 : decode cX12_stake 107 = .ok (.invokevirtual 241, 3) := by decide +kernel
theorem d_X12_stake_110 : decode cX12_stake 110 = .ok (.ifCond .eq 7, 3) := by decide +kernel
theorem d_X12_stake_113 : decode cX12_stake 113 = .ok (.iconst 1, 1) := by decide +kernel
theorem d_X12_stake_114 : decode cX12_stake 114 = .ok (.goto 4, 3) := by decide +kernel
theorem d_X12_stake_117 : decode cX12_stake 117 = .ok (.iconst 0, 1) := by decide +kernel
theorem d_X12_stake_118 : decode cX12_stake 118 = .ok (.ireturn, 1) := by decide +kernel
def f_X12_stake_20 (S : Mem) : Option (Int32 × Mem) := (some ((-1), S))
set_option maxRecDepth 20000 in
theorem t_X12_stake_20 {X : MC} {Γ : GG} (C : CX X Γ cX12_stake 4 "TickPoolsModel" 3 83) (hr : X.2.2.2.2.2.2.2.2.1.sig.returnType = some .int) {q : Int32 × Mem} (S : Mem) (hf : f_X12_stake_20 S = some q) : ZZ X Γ 4 (QQ X Γ (some (aI q.1)) q.2) S 20 [] [] := by
  unfold f_X12_stake_20 at hf
  refine z_iconst (v := (-1)) C d_X12_stake_20 (by decide) ?_
  exact r_i C hr rfl d_X12_stake_21 hf
def f_X12_stake_118 (s0 : Int32) (S : Mem) : Option (Int32 × Mem) := (some (s0, S))
set_option maxRecDepth 20000 in
theorem t_X12_stake_118 {X : MC} {Γ : GG} (C : CX X Γ cX12_stake 4 "TickPoolsModel" 3 83) (hr : X.2.2.2.2.2.2.2.2.1.sig.returnType = some .int) {q : Int32 × Mem} (s0 : Int32) (S : Mem) (hf : f_X12_stake_118 s0 S = some q) : ZZ X Γ 4 (QQ X Γ (some (aI q.1)) q.2) S 118 [] [aI s0] := by
  unfold f_X12_stake_118 at hf
  exact r_i C hr rfl d_X12_stake_118 hf
def f_X12_stake_44 (v1 : Int32) (v2 : Int32) (v3 : Int32) (S : Mem) : Option (Int32 × Mem) := (if 8 ≤ v2 then (if 10 ≤ v2 then ((f_X12_zoneNow v3 S).bind fun q104 => ((f_X12_isAcross v1 v3 q104.1 q104.2).bind fun q107 => (if q107.1 = 0 then (f_X12_stake_118  0 q107.2) else (f_X12_stake_118  1 q107.2)))) else ((f_X12_owedTo v1 (v2 - 8) S).bind fun q94 => (some (((q94.1 : Int64).toInt32), q94.2)))) else ((f_X12_ofStake v1 2 S).bind fun q55 => ((f_X12_ofStake v1 3 q55.2).bind fun q62 => ((f_X12_ofStake v1 5 q62.2).bind fun q69 => ((f_X12_liesIn v3 ((q55.1 : Int64).toInt32) ((q62.1 : Int64).toInt32) q69.1 (v2 - 6) 0 q69.2).bind fun q77 => (some (((q77.1 : Int64).toInt32), q77.2)))))))
set_option maxRecDepth 20000 in
theorem t_X12_stake_44 {X : MC} {Γ : GG} (C : CX X Γ cX12_stake 4 "TickPoolsModel" 3 83) (hr : X.2.2.2.2.2.2.2.2.1.sig.returnType = some .int) {q : Int32 × Mem} (v1 : Int32) (v2 : Int32) (v3 : Int32) (S : Mem) (hf : f_X12_stake_44 v1 v2 v3 S = some q) : ZZ X Γ 4 (QQ X Γ (some (aI q.1)) q.2) S 44 [(0, aR 20), (1, aI v1), (2, aI v2), (3, aI v3)] [] := by
  unfold f_X12_stake_44 at hf
  refine z_iload_n (j := 2) C d_X12_stake_44 rfl ?_
  refine z_bipush (v := 8) C d_X12_stake_45 (by decide) ?_
  refine z_icmp_ge (tgt := 82) C d_X12_stake_47 (by decide) hf (fun c47 hf => ?_) (fun c47 hf => ?_)
  · refine z_iload_n (j := 2) C d_X12_stake_82 rfl ?_
    refine z_bipush (v := 10) C d_X12_stake_83 (by decide) ?_
    refine z_icmp_ge (tgt := 99) C d_X12_stake_85 (by decide) hf (fun c85 hf => ?_) (fun c85 hf => ?_)
    · refine z_aload_n (j := 0) C d_X12_stake_99 rfl ?_
      refine z_iload_n (j := 1) C d_X12_stake_100 rfl ?_
      refine z_iload_n (j := 3) C d_X12_stake_101 rfl ?_
      refine z_aload_n (j := 0) C d_X12_stake_102 rfl ?_
      refine z_iload_n (j := 3) C d_X12_stake_103 rfl ?_
      obtain ⟨q104, hF, hf⟩ := bd hf
      refine z_callV1 (rest := [aI v3, aI v1, aR 20]) C [aI v3] rfl (by decide) rfl rfl k_X12_zoneNow tw_1499 ⟨by decide, by decide⟩ (Nat.le_of_ble_eq_true rfl) d_X12_stake_104 (c_X12_zoneNow C.inj hF) rfl ?_
      obtain ⟨q107, hF, hf⟩ := bd hf
      refine z_callV1 (rest := []) C [aI v1, aI v3, aI q104.1] rfl (by decide) rfl rfl k_X12_isAcross tw_1624 ⟨by decide, by decide⟩ (Nat.le_of_ble_eq_true rfl) d_X12_stake_107 (c_X12_isAcross C.inj hF) rfl ?_
      refine z_if_eq (tgt := 117) C d_X12_stake_110 (by decide) hf (fun c110 hf => ?_) (fun c110 hf => ?_)
      · refine z_iconst (v := 0) C d_X12_stake_117 (by decide) ?_
        exact z_sub [] rfl (t_X12_stake_118 C hr  _ _ hf)
      · refine z_iconst (v := 1) C d_X12_stake_113 (by decide) ?_
        refine z_goto (tgt := 118) C d_X12_stake_114 (by decide) ?_
        exact z_sub [] rfl (t_X12_stake_118 C hr  _ _ hf)
    · refine z_aload_n (j := 0) C d_X12_stake_88 rfl ?_
      refine z_iload_n (j := 1) C d_X12_stake_89 rfl ?_
      refine z_iload_n (j := 2) C d_X12_stake_90 rfl ?_
      refine z_bipush (v := 8) C d_X12_stake_91 (by decide) ?_
      refine z_isub C d_X12_stake_93 ?_
      obtain ⟨q94, hF, hf⟩ := bd hf
      refine z_callV1 (rest := []) C [aI v1, aI (v2 - 8)] rfl (by decide) rfl rfl k_X12_owedTo tw_1533 ⟨by decide, by decide⟩ (Nat.le_of_ble_eq_true rfl) d_X12_stake_94 (c_X12_owedTo C.inj hF) rfl ?_
      refine z_l2i C d_X12_stake_97 ?_
      exact r_i C hr rfl d_X12_stake_98 hf
  · refine z_aload_n (j := 0) C d_X12_stake_50 rfl ?_
    refine z_iload_n (j := 3) C d_X12_stake_51 rfl ?_
    refine z_aload_n (j := 0) C d_X12_stake_52 rfl ?_
    refine z_iload_n (j := 1) C d_X12_stake_53 rfl ?_
    refine z_iconst (v := 2) C d_X12_stake_54 (by decide) ?_
    obtain ⟨q55, hF, hf⟩ := bd hf
    refine z_callV1 (rest := [aI v3, aR 20]) C [aI v1, aI 2] rfl (by decide) rfl rfl k_X12_ofStake tw_1490 ⟨by decide, by decide⟩ (Nat.le_of_ble_eq_true rfl) d_X12_stake_55 (c_X12_ofStake C.inj hF) rfl ?_
    refine z_l2i C d_X12_stake_58 ?_
    refine z_aload_n (j := 0) C d_X12_stake_59 rfl ?_
    refine z_iload_n (j := 1) C d_X12_stake_60 rfl ?_
    refine z_iconst (v := 3) C d_X12_stake_61 (by decide) ?_
    obtain ⟨q62, hF, hf⟩ := bd hf
    refine z_callV1 (rest := [aI ((q55.1 : Int64).toInt32), aI v3, aR 20]) C [aI v1, aI 3] rfl (by decide) rfl rfl k_X12_ofStake tw_1490 ⟨by decide, by decide⟩ (Nat.le_of_ble_eq_true rfl) d_X12_stake_62 (c_X12_ofStake C.inj hF) rfl ?_
    refine z_l2i C d_X12_stake_65 ?_
    refine z_aload_n (j := 0) C d_X12_stake_66 rfl ?_
    refine z_iload_n (j := 1) C d_X12_stake_67 rfl ?_
    refine z_iconst (v := 5) C d_X12_stake_68 (by decide) ?_
    obtain ⟨q69, hF, hf⟩ := bd hf
    refine z_callV1 (rest := [aI ((q62.1 : Int64).toInt32), aI ((q55.1 : Int64).toInt32), aI v3, aR 20]) C [aI v1, aI 5] rfl (by decide) rfl rfl k_X12_ofStake tw_1490 ⟨by decide, by decide⟩ (Nat.le_of_ble_eq_true rfl) d_X12_stake_69 (c_X12_ofStake C.inj hF) rfl ?_
    refine z_iload_n (j := 2) C d_X12_stake_72 rfl ?_
    refine z_bipush (v := 6) C d_X12_stake_73 (by decide) ?_
    refine z_isub C d_X12_stake_75 ?_
    refine z_iconst (v := 0) C d_X12_stake_76 (by decide) ?_
    obtain ⟨q77, hF, hf⟩ := bd hf
    refine z_callV1 (rest := []) C [aI v3, aI ((q55.1 : Int64).toInt32), aI ((q62.1 : Int64).toInt32), aJ q69.1, aI (v2 - 6), aI 0] rfl (by decide) rfl rfl k_X12_liesIn tw_1495 ⟨by decide, by decide⟩ (Nat.le_of_ble_eq_true rfl) d_X12_stake_77 (c_X12_liesIn C.inj hF) rfl ?_
    refine z_l2i C d_X12_stake_80 ?_
    exact r_i C hr rfl d_X12_stake_81 hf
/-- TickPoolsModel.stake(II)I -/
def f_X12_stake (p1 : Int32) (p2 : Int32) (S : Mem) : Option (Int32 × Mem) := ((f_X12_isStake p1 S).bind fun q2 => (if q2.1 = 0 then (f_X12_stake_20  q2.2) else ((f_X12_isIn (p2.toInt64) 0 10 q2.2).bind fun q14 => (if q14.1 = 0 then (f_X12_stake_20  q14.2) else (if 6 ≤ p2 then ((f_X12_ofStake p1 1 q14.2).bind fun q39 => (f_X12_stake_44  p1 p2 ((q39.1 : Int64).toInt32) q39.2)) else ((f_X12_ofStake p1 p2 q14.2).bind fun q31 => (some (((q31.1 : Int64).toInt32), q31.2))))))))
set_option maxRecDepth 20000 in
theorem c_X12_stake {l : Launch} {Γ : GG} (hI : Inj Γ) {p1 : Int32} {p2 : Int32} {S : Mem} {q : Int32 × Mem} (hf : f_X12_stake p1 p2 S = some q) : MM l Γ yX12_stake cX12_stake 4 (some .int) 3 83 [aR 20, aI p1, aI p2] S (some (aI q.1)) q.2 := by
  refine met_of hI "TickPoolsModel" rfl (by decide +kernel) (Nat.le_of_ble_eq_true rfl) (fun X hX C hr => ?_)
  unfold f_X12_stake at hf
  show ZZ X Γ 4 _ S 0 [(0, aR 20), (1, aI p1), (2, aI p2)] []
  refine z_aload_n (j := 0) C d_X12_stake_0 rfl ?_
  refine z_iload_n (j := 1) C d_X12_stake_1 rfl ?_
  obtain ⟨q2, hF, hf⟩ := bd hf
  refine z_callV1 (rest := []) C [aI p1] rfl (by decide) rfl rfl k_X12_isStake tw_1554 ⟨by decide, by decide⟩ (Nat.le_of_ble_eq_true rfl) d_X12_stake_2 (c_X12_isStake C.inj hF) rfl ?_
  refine z_if_eq (tgt := 20) C d_X12_stake_5 (by decide) hf (fun c5 hf => ?_) (fun c5 hf => ?_)
  · exact z_sub [] rfl (t_X12_stake_20 C hr  _ hf)
  · refine z_iload_n (j := 2) C d_X12_stake_8 rfl ?_
    refine z_i2l C d_X12_stake_9 ?_
    refine z_lconst (v := 0) C d_X12_stake_10 (by decide) ?_
    refine z_ldc2 (v := 10) C tw_1210 d_X12_stake_11 ?_
    obtain ⟨q14, hF, hf⟩ := bd hf
    refine z_callS1 (rest := []) C [aJ (p2.toInt64), aJ 0, aJ 10] k_X12_isIn tw_1385 ⟨by decide, by decide⟩ (Nat.le_of_ble_eq_true rfl) d_X12_stake_14 (c_X12_isIn C.inj hF) rfl ?_
    refine z_if_ne (tgt := 22) C d_X12_stake_17 (by decide) hf (fun c17 hf => ?_) (fun c17 hf => ?_)
    · refine z_iload_n (j := 2) C d_X12_stake_22 rfl ?_
      refine z_bipush (v := 6) C d_X12_stake_23 (by decide) ?_
      refine z_icmp_ge (tgt := 36) C d_X12_stake_25 (by decide) hf (fun c25 hf => ?_) (fun c25 hf => ?_)
      · refine z_aload_n (j := 0) C d_X12_stake_36 rfl ?_
        refine z_iload_n (j := 1) C d_X12_stake_37 rfl ?_
        refine z_iconst (v := 1) C d_X12_stake_38 (by decide) ?_
        obtain ⟨q39, hF, hf⟩ := bd hf
        refine z_callV1 (rest := []) C [aI p1, aI 1] rfl (by decide) rfl rfl k_X12_ofStake tw_1490 ⟨by decide, by decide⟩ (Nat.le_of_ble_eq_true rfl) d_X12_stake_39 (c_X12_ofStake C.inj hF) rfl ?_
        refine z_l2i C d_X12_stake_42 ?_
        refine z_istore_n (lv' := [(3, aI ((q39.1 : Int64).toInt32)), (0, aR 20), (1, aI p1), (2, aI p2)]) C d_X12_stake_43 (by decide) rfl ?_
        exact z_sub [1, 2, 3, 0] rfl (t_X12_stake_44 C hr  _ _ _ _ hf)
      · refine z_aload_n (j := 0) C d_X12_stake_28 rfl ?_
        refine z_iload_n (j := 1) C d_X12_stake_29 rfl ?_
        refine z_iload_n (j := 2) C d_X12_stake_30 rfl ?_
        obtain ⟨q31, hF, hf⟩ := bd hf
        refine z_callV1 (rest := []) C [aI p1, aI p2] rfl (by decide) rfl rfl k_X12_ofStake tw_1490 ⟨by decide, by decide⟩ (Nat.le_of_ble_eq_true rfl) d_X12_stake_31 (c_X12_ofStake C.inj hF) rfl ?_
        refine z_l2i C d_X12_stake_34 ?_
        exact r_i C hr rfl d_X12_stake_35 hf
    · exact z_sub [] rfl (t_X12_stake_20 C hr  _ hf)
theorem d_X12_quoteIn_0 : decode cX12_quoteIn 0 = .ok (.aload_n 0, 1) := by decide +kernel
theorem d_X12_quoteIn_1 : decode cX12_quoteIn 1 = .ok (.iload_n 1, 1) := by decide +kernel
theorem d_X12_quoteIn_2 : decode cX12_quoteIn 2 = .ok (.invokevirtual 284, 3) := by decide +kernel
theorem d_X12_quoteIn_5 : decode cX12_quoteIn 5 = .ok (.ifCond .eq 48, 3) := by decide +kernel
theorem d_X12_quoteIn_8 : decode cX12_quoteIn 8 = .ok (.iload_n 2, 1) := by decide +kernel
theorem d_X12_quoteIn_9 : decode cX12_quoteIn 9 = .ok (.invokestatic 388, 3) := by decide +kernel
theorem d_X12_quoteIn_12 : decode cX12_quoteIn 12 = .ok (.ifCond .eq 41, 3) := by decide +kernel
theorem d_X12_quoteIn_15 : decode cX12_quoteIn 15 = .ok (.iload_n 3, 1) := by decide +kernel
theorem d_X12_quoteIn_16 : decode cX12_quoteIn 16 = .ok (.i2l, 1) := by decide +kernel
theorem d_X12_quoteIn_17 : decode cX12_quoteIn 17 = .ok (.lconst 1, 1) := by decide +kernel
theorem d_X12_quoteIn_18 : decode cX12_quoteIn 18 = .ok (.ldc2_w 386, 3) := by decide +kernel
theorem d_X12_quoteIn_21 : decode cX12_quoteIn 21 = .ok (.invokestatic 137, 3) := by decide +kernel
theorem d_X12_quoteIn_24 : decode cX12_quoteIn 24 = .ok (.ifCond .eq 29, 3) := by decide +kernel
theorem d_X12_quoteIn_27 : decode cX12_quoteIn 27 = .ok (.iload 4, 2) := by decide +kernel
theorem d_X12_quoteIn_29 : decode cX12_quoteIn 29 = .ok (.i2l, 1) := by decide +kernel
theorem d_X12_quoteIn_30 : decode cX12_quoteIn 30 = .ok (.lconst 0, 1) := by decide +kernel
theorem d_X12_quoteIn_31 : decode cX12_quoteIn 31 = .ok (.ldc2_w 279, 3) := by decide +kernel
theorem d_X12_quoteIn_34 : decode cX12_quoteIn 34 = .ok (.invokestatic 137, 3) := by decide +kernel
theorem d_X12_quoteIn_37 : decode cX12_quoteIn 37 = .ok (.ifCond .eq 16, 3) := by decide +kernel
theorem d_X12_quoteIn_40 : decode cX12_quoteIn 40 = .ok (.iload 5, 2) := by decide +kernel
theorem d_X12_quoteIn_42 : decode cX12_quoteIn 42 = .ok (.i2l, 1) := by decide +kernel
theorem d_X12_quoteIn_43 : decode cX12_quoteIn 43 = .ok (.lconst 0, 1) := by decide +kernel
theorem d_X12_quoteIn_44 : decode cX12_quoteIn 44 = .ok (.ldc2_w 510, 3) := by decide +kernel
theorem d_X12_quoteIn_47 : decode cX12_quoteIn 47 = .ok (.invokestatic 137, 3) := by decide +kernel
theorem d_X12_quoteIn_50 : decode cX12_quoteIn 50 = .ok (.ifCond .ne 5, 3) := by decide +kernel
theorem d_X12_quoteIn_53 : decode cX12_quoteIn 53 = .ok (.iconst (-1), 1) := by decide +kernel
theorem d_X12_quoteIn_54 : decode cX12_quoteIn 54 = .ok (.ireturn, 1) := by decide +kernel
theorem d_X12_quoteIn_55 : decode cX12_quoteIn 55 = .ok (.aload_n 0, 1) := by decide +kernel
theorem d_X12_quoteIn_56 : decode cX12_quoteIn 56 = .ok (.iconst 0, 1) := by decide +kernel
theorem d_X12_quoteIn_57 : decode cX12_quoteIn 57 = .ok (.invokevirtual 401, 3) := by decide +kernel
theorem d_X12_quoteIn_60 : decode cX12_quoteIn 60 = .ok (.aload_n 0, 1) := by decide +kernel
theorem d_X12_quoteIn_61 : decode cX12_quoteIn 61 = .ok (.iload_n 1, 1) := by decide +kernel
theorem d_X12_quoteIn_62 : decode cX12_quoteIn 62 = .ok (.iload_n 2, 1) := by decide +kernel
theorem d_X12_quoteIn_63 : decode cX12_quoteIn 63 = .ok (.iload_n 3, 1) := by decide +kernel
theorem d_X12_quoteIn_64 : decode cX12_quoteIn 64 = .ok (.i2l, 1) := by decide +kernel
theorem d_X12_quoteIn_65 : decode cX12_quoteIn 65 = .ok (.iload 4, 2) := by decide +kernel
theorem d_X12_quoteIn_67 : decode cX12_quoteIn 67 = .ok (.iconst 0, 1) := by decide +kernel
theorem d_X12_quoteIn_68 : decode cX12_quoteIn 68 = .ok (.invokevirtual 394, 3) := by decide +kernel
theorem d_X12_quoteIn_71 : decode cX12_quoteIn 71 = .ok (.aload_n 0, 1) := by decide +kernel
theorem d_X12_quoteIn_72 : decode cX12_quoteIn 72 = .ok (.iload_n 1, 1) := by decide +kernel
theorem d_X12_quoteIn_73 : decode cX12_quoteIn 73 = .ok (.invokevirtual 228, 3) := by decide +kernel
theorem d_X12_quoteIn_76 : decode cX12_quoteIn 76 = .ok (.istore 6, 2) := by decide +kernel
theorem d_X12_quoteIn_78 : decode cX12_quoteIn 78 = .ok (.aload_n 0, 1) := by decide +kernel
theorem d_X12_quoteIn_79 : decode cX12_quoteIn 79 = .ok (.iconst 0, 1) := by decide +kernel
theorem d_X12_quoteIn_80 : decode cX12_quoteIn 80 = .ok (.invokevirtual 407, 3) := by decide +kernel
theorem d_X12_quoteIn_83 : decode cX12_quoteIn 83 = .ok (.iload 5, 2) := by decide +kernel
theorem d_X12_quoteIn_85 : decode cX12_quoteIn 85 = .ok (.ifCond .ne 11, 3) := by decide +kernel
theorem d_X12_quoteIn_88 : decode cX12_quoteIn 88 = .ok (.aload_n 0, 1) := by decide +kernel
theorem d_X12_quoteIn_89 : decode cX12_quoteIn 89 = .ok (.getfield 352, 3) := by decide +kernel
theorem d_X12_quoteIn_92 : decode cX12_quoteIn 92 = .ok (.l2i, 1) := by decide +kernel
theorem d_X12_quoteIn_93 : decode cX12_quoteIn 93 = .ok (.goto 46, 3) := by decide +kernel
theorem d_X12_quoteIn_96 : decode cX12_quoteIn 96 = .ok (.iload 5, 2) := by decide +kernel
theorem d_X12_quoteIn_98 : decode cX12_quoteIn 98 = .ok (.iconst 1, 1) := by decide +kernel
theorem d_X12_quoteIn_99 : decode cX12_quoteIn 99 = .ok (.if_icmp .ne 11, 3) := by decide +kernel
theorem d_X12_quoteIn_102 : decode cX12_quoteIn 102 = .ok (.aload_n 0, 1) := by decide +kernel
theorem d_X12_quoteIn_103 : decode cX12_quoteIn 103 = .ok (.getfield 326, 3) := by decide +kernel
theorem d_X12_quoteIn_106 : decode cX12_quoteIn 106 = .ok (.l2i, 1) := by decide +kernel
theorem d_X12_quoteIn_107 : decode cX12_quoteIn 107 = .ok (.goto 32, 3) := by decide +kernel
theorem d_X12_quoteIn_110 : decode cX12_quoteIn 110 = .ok (.iload 5, 2) := by decide +kernel
theorem d_X12_quoteIn_112 : decode cX12_quoteIn 112 = .ok (.iconst 2, 1) := by decide +kernel
theorem d_X12_quoteIn_113 : decode cX12_quoteIn 113 = .ok (.if_icmp .ne 11, 3) := by decide +kernel
theorem d_X12_quoteIn_116 : decode cX12_quoteIn 116 = .ok (.aload_n 0, 1) := by decide +kernel
theorem d_X12_quoteIn_117 : decode cX12_quoteIn 117 = .ok (.getfield 355, 3) := by decide +kernel
theorem d_X12_quoteIn_120 : decode cX12_quoteIn 120 = .ok (.l2i, 1) := by decide +kernel
theorem d_X12_quoteIn_121 : decode cX12_quoteIn 121 = .ok (.goto 18, 3) := by decide +kernel
theorem d_X12_quoteIn_124 : decode cX12_quoteIn 124 = .ok (.iload 5, 2) := by decide +kernel
theorem d_X12_quoteIn_126 : decode cX12_quoteIn 126 = .ok (.iconst 3, 1) := by decide +kernel
theorem d_X12_quoteIn_127 : decode cX12_quoteIn 127 = .ok (.if_icmp .ne 8, 3) := by decide +kernel
theorem d_X12_quoteIn_130 : decode cX12_quoteIn 130 = .ok (.iload 6, 2) := by decide +kernel
theorem d_X12_quoteIn_132 : decode cX12_quoteIn 132 = .ok (.goto 7, 3) := by decide +kernel
theorem d_X12_quoteIn_135 : decode cX12_quoteIn 135 = .ok (.aload_n 0, 1) := by decide +kernel
theorem d_X12_quoteIn_136 : decode cX12_quoteIn 136 = .ok (.getfield 362, 3) := by decide +kernel
theorem d_X12_quoteIn_139 : decode cX12_quoteIn 139 = .ok (.ireturn, 1) := by decide +kernel
def f_X12_quoteIn_53 (S : Mem) : Option (Int32 × Mem) := (some ((-1), S))
set_option maxRecDepth 20000 in
theorem t_X12_quoteIn_53 {X : MC} {Γ : GG} (C : CX X Γ cX12_quoteIn 7 "TickPoolsModel" 7 206) (hr : X.2.2.2.2.2.2.2.2.1.sig.returnType = some .int) {q : Int32 × Mem} (S : Mem) (hf : f_X12_quoteIn_53 S = some q) : ZZ X Γ 7 (QQ X Γ (some (aI q.1)) q.2) S 53 [] [] := by
  unfold f_X12_quoteIn_53 at hf
  refine z_iconst (v := (-1)) C d_X12_quoteIn_53 (by decide) ?_
  exact r_i C hr rfl d_X12_quoteIn_54 hf
def f_X12_quoteIn_139 (s0 : Int32) (S : Mem) : Option (Int32 × Mem) := (some (s0, S))
set_option maxRecDepth 20000 in
theorem t_X12_quoteIn_139 {X : MC} {Γ : GG} (C : CX X Γ cX12_quoteIn 7 "TickPoolsModel" 7 206) (hr : X.2.2.2.2.2.2.2.2.1.sig.returnType = some .int) {q : Int32 × Mem} (s0 : Int32) (S : Mem) (hf : f_X12_quoteIn_139 s0 S = some q) : ZZ X Γ 7 (QQ X Γ (some (aI q.1)) q.2) S 139 [] [aI s0] := by
  unfold f_X12_quoteIn_139 at hf
  exact r_i C hr rfl d_X12_quoteIn_139 hf
/-- TickPoolsModel.quoteIn(IIIII)I -/
def f_X12_quoteIn (p1 : Int32) (p2 : Int32) (p3 : Int32) (p4 : Int32) (p5 : Int32) (S : Mem) : Option (Int32 × Mem) := ((f_X12_isPool p1 S).bind fun q2 => (if q2.1 = 0 then (f_X12_quoteIn_53  q2.2) else ((f_X12_isSide p2 q2.2).bind fun q9 => (if q9.1 = 0 then (f_X12_quoteIn_53  q9.2) else ((f_X12_isIn (p3.toInt64) 1 9999999 q9.2).bind fun q21 => (if q21.1 = 0 then (f_X12_quoteIn_53  q21.2) else ((f_X12_isIn (p4.toInt64) 0 40 q21.2).bind fun q34 => (if q34.1 = 0 then (f_X12_quoteIn_53  q34.2) else ((f_X12_isIn (p5.toInt64) 0 4 q34.2).bind fun q47 => (if q47.1 = 0 then (f_X12_quoteIn_53  q47.2) else ((f_X12_keeps 0 q47.2).bind fun q57 => ((f_X12_swaps p1 p2 (p3.toInt64) p4 0 q57.2).bind fun q68 => ((f_X12_zoneNow p1 q68.2).bind fun q73 => ((f_X12_laysBack 0 q73.2).bind fun q80 => (if p5 = 0 then (f_X12_quoteIn_139  (((gL q80.2 20 31) : Int64).toInt32) q80.2) else (if p5 = 1 then (f_X12_quoteIn_139  (((gL q80.2 20 29) : Int64).toInt32) q80.2) else (if p5 = 2 then (f_X12_quoteIn_139  (((gL q80.2 20 32) : Int64).toInt32) q80.2) else (if p5 = 3 then (f_X12_quoteIn_139  q73.1 q80.2) else (f_X12_quoteIn_139  (gI q80.2 20 33) q80.2)))))))))))))))))))
set_option maxRecDepth 20000 in
theorem c_X12_quoteIn {l : Launch} {Γ : GG} (hI : Inj Γ) {p1 : Int32} {p2 : Int32} {p3 : Int32} {p4 : Int32} {p5 : Int32} {S : Mem} {q : Int32 × Mem} (hf : f_X12_quoteIn p1 p2 p3 p4 p5 S = some q) : MM l Γ yX12_quoteIn cX12_quoteIn 7 (some .int) 7 206 [aR 20, aI p1, aI p2, aI p3, aI p4, aI p5] S (some (aI q.1)) q.2 := by
  refine met_of hI "TickPoolsModel" rfl (by decide +kernel) (Nat.le_of_ble_eq_true rfl) (fun X hX C hr => ?_)
  unfold f_X12_quoteIn at hf
  show ZZ X Γ 7 _ S 0 [(0, aR 20), (1, aI p1), (2, aI p2), (3, aI p3), (4, aI p4), (5, aI p5)] []
  refine z_aload_n (j := 0) C d_X12_quoteIn_0 rfl ?_
  refine z_iload_n (j := 1) C d_X12_quoteIn_1 rfl ?_
  obtain ⟨q2, hF, hf⟩ := bd hf
  refine z_callV1 (rest := []) C [aI p1] rfl (by decide) rfl rfl k_X12_isPool tw_1471 ⟨by decide, by decide⟩ (Nat.le_of_ble_eq_true rfl) d_X12_quoteIn_2 (c_X12_isPool C.inj hF) rfl ?_
  refine z_if_eq (tgt := 53) C d_X12_quoteIn_5 (by decide) hf (fun c5 hf => ?_) (fun c5 hf => ?_)
  · exact z_sub [] rfl (t_X12_quoteIn_53 C hr  _ hf)
  · refine z_iload_n (j := 2) C d_X12_quoteIn_8 rfl ?_
    obtain ⟨q9, hF, hf⟩ := bd hf
    refine z_callS1 (rest := []) C [aI p2] k_X12_isSide tw_1600 ⟨by decide, by decide⟩ (Nat.le_of_ble_eq_true rfl) d_X12_quoteIn_9 (c_X12_isSide C.inj hF) rfl ?_
    refine z_if_eq (tgt := 53) C d_X12_quoteIn_12 (by decide) hf (fun c12 hf => ?_) (fun c12 hf => ?_)
    · exact z_sub [] rfl (t_X12_quoteIn_53 C hr  _ hf)
    · refine z_iload_n (j := 3) C d_X12_quoteIn_15 rfl ?_
      refine z_i2l C d_X12_quoteIn_16 ?_
      refine z_lconst (v := 1) C d_X12_quoteIn_17 (by decide) ?_
      refine z_ldc2 (v := 9999999) C tw_1595 d_X12_quoteIn_18 ?_
      obtain ⟨q21, hF, hf⟩ := bd hf
      refine z_callS1 (rest := []) C [aJ (p3.toInt64), aJ 1, aJ 9999999] k_X12_isIn tw_1385 ⟨by decide, by decide⟩ (Nat.le_of_ble_eq_true rfl) d_X12_quoteIn_21 (c_X12_isIn C.inj hF) rfl ?_
      refine z_if_eq (tgt := 53) C d_X12_quoteIn_24 (by decide) hf (fun c24 hf => ?_) (fun c24 hf => ?_)
      · exact z_sub [] rfl (t_X12_quoteIn_53 C hr  _ hf)
      · refine z_iload (j := 4) C d_X12_quoteIn_27 rfl ?_
        refine z_i2l C d_X12_quoteIn_29 ?_
        refine z_lconst (v := 0) C d_X12_quoteIn_30 (by decide) ?_
        refine z_ldc2 (v := 40) C tw_1479 d_X12_quoteIn_31 ?_
        obtain ⟨q34, hF, hf⟩ := bd hf
        refine z_callS1 (rest := []) C [aJ (p4.toInt64), aJ 0, aJ 40] k_X12_isIn tw_1385 ⟨by decide, by decide⟩ (Nat.le_of_ble_eq_true rfl) d_X12_quoteIn_34 (c_X12_isIn C.inj hF) rfl ?_
        refine z_if_eq (tgt := 53) C d_X12_quoteIn_37 (by decide) hf (fun c37 hf => ?_) (fun c37 hf => ?_)
        · exact z_sub [] rfl (t_X12_quoteIn_53 C hr  _ hf)
        · refine z_iload (j := 5) C d_X12_quoteIn_40 rfl ?_
          refine z_i2l C d_X12_quoteIn_42 ?_
          refine z_lconst (v := 0) C d_X12_quoteIn_43 (by decide) ?_
          refine z_ldc2 (v := 4) C tw_1798 d_X12_quoteIn_44 ?_
          obtain ⟨q47, hF, hf⟩ := bd hf
          refine z_callS1 (rest := []) C [aJ (p5.toInt64), aJ 0, aJ 4] k_X12_isIn tw_1385 ⟨by decide, by decide⟩ (Nat.le_of_ble_eq_true rfl) d_X12_quoteIn_47 (c_X12_isIn C.inj hF) rfl ?_
          refine z_if_ne (tgt := 55) C d_X12_quoteIn_50 (by decide) hf (fun c50 hf => ?_) (fun c50 hf => ?_)
          · refine z_aload_n (j := 0) C d_X12_quoteIn_55 rfl ?_
            refine z_iconst (v := 0) C d_X12_quoteIn_56 (by decide) ?_
            obtain ⟨q57, hF, hf⟩ := bd hf
            refine z_callV0 (rest := []) C [aI 0] rfl (by decide) rfl rfl k_X12_keeps tw_1670 ⟨by decide, by decide⟩ (Nat.le_of_ble_eq_true rfl) d_X12_quoteIn_57 (c_X12_keeps C.inj hF) rfl ?_
            refine z_aload_n (j := 0) C d_X12_quoteIn_60 rfl ?_
            refine z_iload_n (j := 1) C d_X12_quoteIn_61 rfl ?_
            refine z_iload_n (j := 2) C d_X12_quoteIn_62 rfl ?_
            refine z_iload_n (j := 3) C d_X12_quoteIn_63 rfl ?_
            refine z_i2l C d_X12_quoteIn_64 ?_
            refine z_iload (j := 4) C d_X12_quoteIn_65 rfl ?_
            refine z_iconst (v := 0) C d_X12_quoteIn_67 (by decide) ?_
            obtain ⟨q68, hF, hf⟩ := bd hf
            refine z_callV0 (rest := []) C [aI p1, aI p2, aJ (p3.toInt64), aI p4, aI 0] rfl (by decide) rfl rfl k_X12_swaps tw_1608 ⟨by decide, by decide⟩ (Nat.le_of_ble_eq_true rfl) d_X12_quoteIn_68 (c_X12_swaps C.inj hF) rfl ?_
            refine z_aload_n (j := 0) C d_X12_quoteIn_71 rfl ?_
            refine z_iload_n (j := 1) C d_X12_quoteIn_72 rfl ?_
            obtain ⟨q73, hF, hf⟩ := bd hf
            refine z_callV1 (rest := []) C [aI p1] rfl (by decide) rfl rfl k_X12_zoneNow tw_1499 ⟨by decide, by decide⟩ (Nat.le_of_ble_eq_true rfl) d_X12_quoteIn_73 (c_X12_zoneNow C.inj hF) rfl ?_
            refine z_istore (lv' := [(6, aI q73.1), (0, aR 20), (1, aI p1), (2, aI p2), (3, aI p3), (4, aI p4), (5, aI p5)]) C d_X12_quoteIn_76 (by decide) rfl ?_
            refine z_aload_n (j := 1) C d_X12_quoteIn_78 rfl ?_
            refine z_iconst (v := 0) C d_X12_quoteIn_79 (by decide) ?_
            obtain ⟨q80, hF, hf⟩ := bd hf
            refine z_callV0 (rest := []) C [aI 0] rfl (by decide) rfl rfl k_X12_laysBack tw_1677 ⟨by decide, by decide⟩ (Nat.le_of_ble_eq_true rfl) d_X12_quoteIn_80 (c_X12_laysBack C.inj hF) rfl ?_
            refine z_iload (j := 6) C d_X12_quoteIn_83 rfl ?_
            refine z_if_ne (tgt := 96) C d_X12_quoteIn_85 (by decide) hf (fun c85 hf => ?_) (fun c85 hf => ?_)
            · refine z_iload (j := 6) C d_X12_quoteIn_96 rfl ?_
              refine z_iconst (v := 1) C d_X12_quoteIn_98 (by decide) ?_
              refine z_icmp_ne (tgt := 110) C d_X12_quoteIn_99 (by decide) hf (fun c99 hf => ?_) (fun c99 hf => ?_)
              · refine z_iload (j := 6) C d_X12_quoteIn_110 rfl ?_
                refine z_iconst (v := 2) C d_X12_quoteIn_112 (by decide) ?_
                refine z_icmp_ne (tgt := 124) C d_X12_quoteIn_113 (by decide) hf (fun c113 hf => ?_) (fun c113 hf => ?_)
                · refine z_iload (j := 6) C d_X12_quoteIn_124 rfl ?_
                  refine z_iconst (v := 3) C d_X12_quoteIn_126 (by decide) ?_
                  refine z_icmp_ne (tgt := 135) C d_X12_quoteIn_127 (by decide) hf (fun c127 hf => ?_) (fun c127 hf => ?_)
                  · refine z_aload_n (j := 1) C d_X12_quoteIn_135 rfl ?_
                    refine zg_X12_crossed C rfl tw_1244 d_X12_quoteIn_136 ?_
                    exact z_sub [] rfl (t_X12_quoteIn_139 C hr  _ _ hf)
                  · refine z_iload (j := 0) C d_X12_quoteIn_130 rfl ?_
                    refine z_goto (tgt := 139) C d_X12_quoteIn_132 (by decide) ?_
                    exact z_sub [] rfl (t_X12_quoteIn_139 C hr  _ _ hf)
                · refine z_aload_n (j := 1) C d_X12_quoteIn_116 rfl ?_
                  refine zg_X12_fees C rfl tw_1243 d_X12_quoteIn_117 ?_
                  refine z_l2i C d_X12_quoteIn_120 ?_
                  refine z_goto (tgt := 139) C d_X12_quoteIn_121 (by decide) ?_
                  exact z_sub [] rfl (t_X12_quoteIn_139 C hr  _ _ hf)
              · refine z_aload_n (j := 1) C d_X12_quoteIn_102 rfl ?_
                refine zg_X12_left C rfl tw_1240 d_X12_quoteIn_103 ?_
                refine z_l2i C d_X12_quoteIn_106 ?_
                refine z_goto (tgt := 139) C d_X12_quoteIn_107 (by decide) ?_
                exact z_sub [] rfl (t_X12_quoteIn_139 C hr  _ _ hf)
            · refine z_aload_n (j := 1) C d_X12_quoteIn_88 rfl ?_
              refine zg_X12_gone C rfl tw_1242 d_X12_quoteIn_89 ?_
              refine z_l2i C d_X12_quoteIn_92 ?_
              refine z_goto (tgt := 139) C d_X12_quoteIn_93 (by decide) ?_
              exact z_sub [] rfl (t_X12_quoteIn_139 C hr  _ _ hf)
          · exact z_sub [] rfl (t_X12_quoteIn_53 C hr  _ hf)
theorem d_X12_quoteOut_0 : decode cX12_quoteOut 0 = .ok (.aload_n 0, 1) := by decide +kernel
theorem d_X12_quoteOut_1 : decode cX12_quoteOut 1 = .ok (.iload_n 1, 1) := by decide +kernel
theorem d_X12_quoteOut_2 : decode cX12_quoteOut 2 = .ok (.invokevirtual 284, 3) := by decide +kernel
theorem d_X12_quoteOut_5 : decode cX12_quoteOut 5 = .ok (.ifCond .eq 35, 3) := by decide +kernel
theorem d_X12_quoteOut_8 : decode cX12_quoteOut 8 = .ok (.iload_n 2, 1) := by decide +kernel
theorem d_X12_quoteOut_9 : decode cX12_quoteOut 9 = .ok (.invokestatic 388, 3) := by decide +kernel
theorem d_X12_quoteOut_12 : decode cX12_quoteOut 12 = .ok (.ifCond .eq 28, 3) := by decide +kernel
theorem d_X12_quoteOut_15 : decode cX12_quoteOut 15 = .ok (.iload_n 3, 1) := by decide +kernel
theorem d_X12_quoteOut_16 : decode cX12_quoteOut 16 = .ok (.i2l, 1) := by decide +kernel
theorem d_X12_quoteOut_17 : decode cX12_quoteOut 17 = .ok (.lconst 1, 1) := by decide +kernel
theorem d_X12_quoteOut_18 : decode cX12_quoteOut 18 = .ok (.ldc2_w 386, 3) := by decide +kernel
theorem d_X12_quoteOut_21 : decode cX12_quoteOut 21 = .ok (.invokestatic 137, 3) := by decide +kernel
theorem d_X12_quoteOut_24 : decode cX12_quoteOut 24 = .ok (.ifCond .eq 16, 3) := by decide +kernel
theorem d_X12_quoteOut_27 : decode cX12_quoteOut 27 = .ok (.iload 4, 2) := by decide +kernel
theorem d_X12_quoteOut_29 : decode cX12_quoteOut 29 = .ok (.i2l, 1) := by decide +kernel
theorem d_X12_quoteOut_30 : decode cX12_quoteOut 30 = .ok (.lconst 0, 1) := by decide +kernel
theorem d_X12_quoteOut_31 : decode cX12_quoteOut 31 = .ok (.ldc2_w 512, 3) := by decide +kernel
theorem d_X12_quoteOut_34 : decode cX12_quoteOut 34 = .ok (.invokestatic 137, 3) := by decide +kernel
theorem d_X12_quoteOut_37 : decode cX12_quoteOut 37 = .ok (.ifCond .ne 5, 3) := by decide +kernel
theorem d_X12_quoteOut_40 : decode cX12_quoteOut 40 = .ok (.iconst (-1), 1) := by decide +kernel
theorem d_X12_quoteOut_41 : decode cX12_quoteOut 41 = .ok (.ireturn, 1) := by decide +kernel
theorem d_X12_quoteOut_42 : decode cX12_quoteOut 42 = .ok (.aload_n 0, 1) := by decide +kernel
theorem d_X12_quoteOut_43 : decode cX12_quoteOut 43 = .ok (.iconst 0, 1) := by decide +kernel
theorem d_X12_quoteOut_44 : decode cX12_quoteOut 44 = .ok (.invokevirtual 401, 3) := by decide +kernel
theorem d_X12_quoteOut_47 : decode cX12_quoteOut 47 = .ok (.aload_n 0, 1) := by decide +kernel
theorem d_X12_quoteOut_48 : decode cX12_quoteOut 48 = .ok (.iload_n 1, 1) := by decide +kernel
theorem d_X12_quoteOut_49 : decode cX12_quoteOut 49 = .ok (.iload_n 2, 1) := by decide +kernel
theorem d_X12_quoteOut_50 : decode cX12_quoteOut 50 = .ok (.iload_n 3, 1) := by decide +kernel
theorem d_X12_quoteOut_51 : decode cX12_quoteOut 51 = .ok (.i2l, 1) := by decide +kernel
theorem d_X12_quoteOut_52 : decode cX12_quoteOut 52 = .ok (.iload_n 2, 1) := by decide +kernel
theorem d_X12_quoteOut_53 : decode cX12_quoteOut 53 = .ok (.invokestatic 404, 3) := by decide +kernel
theorem d_X12_quoteOut_56 : decode cX12_quoteOut 56 = .ok (.iconst 1, 1) := by decide +kernel
theorem d_X12_quoteOut_57 : decode cX12_quoteOut 57 = .ok (.invokevirtual 394, 3) := by decide +kernel
theorem d_X12_quoteOut_60 : decode cX12_quoteOut 60 = .ok (.aload_n 0, 1) := by decide +kernel
theorem d_X12_quoteOut_61 : decode cX12_quoteOut 61 = .ok (.iload_n 1, 1) := by decide +kernel
theorem d_X12_quoteOut_62 : decode cX12_quoteOut 62 = .ok (.invokevirtual 228, 3) := by decide +kernel
theorem d_X12_quoteOut_65 : decode cX12_quoteOut 65 = .ok (.istore 5, 2) := by decide +kernel
theorem d_X12_quoteOut_67 : decode cX12_quoteOut 67 = .ok (.aload_n 0, 1) := by decide +kernel
theorem d_X12_quoteOut_68 : decode cX12_quoteOut 68 = .ok (.iconst 0, 1) := by decide +kernel
theorem d_X12_quoteOut_69 : decode cX12_quoteOut 69 = .ok (.invokevirtual 407, 3) := by decide +kernel
theorem d_X12_quoteOut_72 : decode cX12_quoteOut 72 = .ok (.aload_n 0, 1) := by decide +kernel
theorem d_X12_quoteOut_73 : decode cX12_quoteOut 73 = .ok (.getfield 326, 3) := by decide +kernel
theorem d_X12_quoteOut_76 : decode cX12_quoteOut 76 = .ok (.lconst 0, 1) := by decide +kernel
theorem d_X12_quoteOut_77 : decode cX12_quoteOut 77 = .ok (.lcmp, 1) := by decide +kernel
theorem d_X12_quoteOut_78 : decode cX12_quoteOut 78 = .ok (.ifCond .le 6, 3) := by decide +kernel
theorem d_X12_quoteOut_81 : decode cX12_quoteOut 81 = .ok (.bipush (-2), 2) := by decide +kernel
theorem d_X12_quoteOut_83 : decode cX12_quoteOut 83 = .ok (.ireturn, 1) := by decide +kernel
theorem d_X12_quoteOut_84 : decode cX12_quoteOut 84 = .ok (.iload 4, 2) := by decide +kernel
theorem d_X12_quoteOut_86 : decode cX12_quoteOut 86 = .ok (.ifCond .ne 11, 3) := by decide +kernel
theorem d_X12_quoteOut_89 : decode cX12_quoteOut 89 = .ok (.aload_n 0, 1) := by decide +kernel
theorem d_X12_quoteOut_90 : decode cX12_quoteOut 90 = .ok (.getfield 349, 3) := by decide +kernel
theorem d_X12_quoteOut_93 : decode cX12_quoteOut 93 = .ok (.l2i, 1) := by decide +kernel
theorem d_X12_quoteOut_94 : decode cX12_quoteOut 94 = .ok (.goto 32, 3) := by decide +kernel
theorem d_X12_quoteOut_97 : decode cX12_quoteOut 97 = .ok (.iload 4, 2) := by decide +kernel
theorem d_X12_quoteOut_99 : decode cX12_quoteOut 99 = .ok (.iconst 1, 1) := by decide +kernel
theorem d_X12_quoteOut_100 : decode cX12_quoteOut 100 = .ok (.if_icmp .ne 11, 3) := by decide +kernel
theorem d_X12_quoteOut_103 : decode cX12_quoteOut 103 = .ok (.aload_n 0, 1) := by decide +kernel
theorem d_X12_quoteOut_104 : decode cX12_quoteOut 104 = .ok (.getfield 355, 3) := by decide +kernel
theorem d_X12_quoteOut_107 : decode cX12_quoteOut 107 = .ok (.l2i, 1) := by decide +kernel
theorem d_X12_quoteOut_108 : decode cX12_quoteOut 108 = .ok (.goto 18, 3) := by decide +kernel
theorem d_X12_quoteOut_111 : decode cX12_quoteOut 111 = .ok (.iload 4, 2) := by decide +kernel
theorem d_X12_quoteOut_113 : decode cX12_quoteOut 113 = .ok (.iconst 2, 1) := by decide +kernel
theorem d_X12_quoteOut_114 : decode cX12_quoteOut 114 = .ok (.if_icmp .ne 8, 3) := by decide +kernel
theorem d_X12_quoteOut_117 : decode cX12_quoteOut 117 = .ok (.iload 5, 2) := by decide +kernel
theorem d_X12_quoteOut_119 : decode cX12_quoteOut 119 = .ok (.goto 7, 3) := by decide +kernel
theorem d_X12_quoteOut_122 : decode cX12_quoteOut 122 = .ok (.aload_n 0, 1) := by decide +kernel
theorem d_X12_quoteOut_123 : decode cX12_quoteOut 123 = .ok (.getfield 362, 3) := by decide +kernel
theorem d_X12_quoteOut_126 : decode cX12_quoteOut 126 = .ok (.ireturn, 1) := by decide +kernel
def f_X12_quoteOut_40 (S : Mem) : Option (Int32 × Mem) := (some ((-1), S))
set_option maxRecDepth 20000 in
theorem t_X12_quoteOut_40 {X : MC} {Γ : GG} (C : CX X Γ cX12_quoteOut 6 "TickPoolsModel" 7 206) (hr : X.2.2.2.2.2.2.2.2.1.sig.returnType = some .int) {q : Int32 × Mem} (S : Mem) (hf : f_X12_quoteOut_40 S = some q) : ZZ X Γ 6 (QQ X Γ (some (aI q.1)) q.2) S 40 [] [] := by
  unfold f_X12_quoteOut_40 at hf
  refine z_iconst (v := (-1)) C d_X12_quoteOut_40 (by decide) ?_
  exact r_i C hr rfl d_X12_quoteOut_41 hf
def f_X12_quoteOut_126 (s0 : Int32) (S : Mem) : Option (Int32 × Mem) := (some (s0, S))
set_option maxRecDepth 20000 in
theorem t_X12_quoteOut_126 {X : MC} {Γ : GG} (C : CX X Γ cX12_quoteOut 6 "TickPoolsModel" 7 206) (hr : X.2.2.2.2.2.2.2.2.1.sig.returnType = some .int) {q : Int32 × Mem} (s0 : Int32) (S : Mem) (hf : f_X12_quoteOut_126 s0 S = some q) : ZZ X Γ 6 (QQ X Γ (some (aI q.1)) q.2) S 126 [] [aI s0] := by
  unfold f_X12_quoteOut_126 at hf
  exact r_i C hr rfl d_X12_quoteOut_126 hf
/-- TickPoolsModel.quoteOut(IIII)I -/
def f_X12_quoteOut (p1 : Int32) (p2 : Int32) (p3 : Int32) (p4 : Int32) (S : Mem) : Option (Int32 × Mem) := ((f_X12_isPool p1 S).bind fun q2 => (if q2.1 = 0 then (f_X12_quoteOut_40  q2.2) else ((f_X12_isSide p2 q2.2).bind fun q9 => (if q9.1 = 0 then (f_X12_quoteOut_40  q9.2) else ((f_X12_isIn (p3.toInt64) 1 9999999 q9.2).bind fun q21 => (if q21.1 = 0 then (f_X12_quoteOut_40  q21.2) else ((f_X12_isIn (p4.toInt64) 0 3 q21.2).bind fun q34 => (if q34.1 = 0 then (f_X12_quoteOut_40  q34.2) else ((f_X12_keeps 0 q34.2).bind fun q44 => ((f_X12_endOf p2 q44.2).bind fun q53 => ((f_X12_swaps p1 p2 (p3.toInt64) q53.1 1 q53.2).bind fun q57 => ((f_X12_zoneNow p1 q57.2).bind fun q62 => ((f_X12_laysBack 0 q62.2).bind fun q69 => (if (gL q69.2 20 29) ≤ 0 then (if p4 = 0 then (f_X12_quoteOut_126  (((gL q69.2 20 30) : Int64).toInt32) q69.2) else (if p4 = 1 then (f_X12_quoteOut_126  (((gL q69.2 20 32) : Int64).toInt32) q69.2) else (if p4 = 2 then (f_X12_quoteOut_126  q62.1 q69.2) else (f_X12_quoteOut_126  (gI q69.2 20 33) q69.2)))) else (some ((-2), q69.2))))))))))))))))
set_option maxRecDepth 20000 in
theorem c_X12_quoteOut {l : Launch} {Γ : GG} (hI : Inj Γ) {p1 : Int32} {p2 : Int32} {p3 : Int32} {p4 : Int32} {S : Mem} {q : Int32 × Mem} (hf : f_X12_quoteOut p1 p2 p3 p4 S = some q) : MM l Γ yX12_quoteOut cX12_quoteOut 6 (some .int) 7 206 [aR 20, aI p1, aI p2, aI p3, aI p4] S (some (aI q.1)) q.2 := by
  refine met_of hI "TickPoolsModel" rfl (by decide +kernel) (Nat.le_of_ble_eq_true rfl) (fun X hX C hr => ?_)
  unfold f_X12_quoteOut at hf
  show ZZ X Γ 6 _ S 0 [(0, aR 20), (1, aI p1), (2, aI p2), (3, aI p3), (4, aI p4)] []
  refine z_aload_n (j := 0) C d_X12_quoteOut_0 rfl ?_
  refine z_iload_n (j := 1) C d_X12_quoteOut_1 rfl ?_
  obtain ⟨q2, hF, hf⟩ := bd hf
  refine z_callV1 (rest := []) C [aI p1] rfl (by decide) rfl rfl k_X12_isPool tw_1471 ⟨by decide, by decide⟩ (Nat.le_of_ble_eq_true rfl) d_X12_quoteOut_2 (c_X12_isPool C.inj hF) rfl ?_
  refine z_if_eq (tgt := 40) C d_X12_quoteOut_5 (by decide) hf (fun c5 hf => ?_) (fun c5 hf => ?_)
  · exact z_sub [] rfl (t_X12_quoteOut_40 C hr  _ hf)
  · refine z_iload_n (j := 2) C d_X12_quoteOut_8 rfl ?_
    obtain ⟨q9, hF, hf⟩ := bd hf
    refine z_callS1 (rest := []) C [aI p2] k_X12_isSide tw_1600 ⟨by decide, by decide⟩ (Nat.le_of_ble_eq_true rfl) d_X12_quoteOut_9 (c_X12_isSide C.inj hF) rfl ?_
    refine z_if_eq (tgt := 40) C d_X12_quoteOut_12 (by decide) hf (fun c12 hf => ?_) (fun c12 hf => ?_)
    · exact z_sub [] rfl (t_X12_quoteOut_40 C hr  _ hf)
    · refine z_iload_n (j := 3) C d_X12_quoteOut_15 rfl ?_
      refine z_i2l C d_X12_quoteOut_16 ?_
      refine z_lconst (v := 1) C d_X12_quoteOut_17 (by decide) ?_
      refine z_ldc2 (v := 9999999) C tw_1595 d_X12_quoteOut_18 ?_
      obtain ⟨q21, hF, hf⟩ := bd hf
      refine z_callS1 (rest := []) C [aJ (p3.toInt64), aJ 1, aJ 9999999] k_X12_isIn tw_1385 ⟨by decide, by decide⟩ (Nat.le_of_ble_eq_true rfl) d_X12_quoteOut_21 (c_X12_isIn C.inj hF) rfl ?_
      refine z_if_eq (tgt := 40) C d_X12_quoteOut_24 (by decide) hf (fun c24 hf => ?_) (fun c24 hf => ?_)
      · exact z_sub [] rfl (t_X12_quoteOut_40 C hr  _ hf)
      · refine z_iload (j := 4) C d_X12_quoteOut_27 rfl ?_
        refine z_i2l C d_X12_quoteOut_29 ?_
        refine z_lconst (v := 0) C d_X12_quoteOut_30 (by decide) ?_
        refine z_ldc2 (v := 3) C tw_1803 d_X12_quoteOut_31 ?_
        obtain ⟨q34, hF, hf⟩ := bd hf
        refine z_callS1 (rest := []) C [aJ (p4.toInt64), aJ 0, aJ 3] k_X12_isIn tw_1385 ⟨by decide, by decide⟩ (Nat.le_of_ble_eq_true rfl) d_X12_quoteOut_34 (c_X12_isIn C.inj hF) rfl ?_
        refine z_if_ne (tgt := 42) C d_X12_quoteOut_37 (by decide) hf (fun c37 hf => ?_) (fun c37 hf => ?_)
        · refine z_aload_n (j := 0) C d_X12_quoteOut_42 rfl ?_
          refine z_iconst (v := 0) C d_X12_quoteOut_43 (by decide) ?_
          obtain ⟨q44, hF, hf⟩ := bd hf
          refine z_callV0 (rest := []) C [aI 0] rfl (by decide) rfl rfl k_X12_keeps tw_1670 ⟨by decide, by decide⟩ (Nat.le_of_ble_eq_true rfl) d_X12_quoteOut_44 (c_X12_keeps C.inj hF) rfl ?_
          refine z_aload_n (j := 0) C d_X12_quoteOut_47 rfl ?_
          refine z_iload_n (j := 1) C d_X12_quoteOut_48 rfl ?_
          refine z_iload_n (j := 2) C d_X12_quoteOut_49 rfl ?_
          refine z_iload_n (j := 3) C d_X12_quoteOut_50 rfl ?_
          refine z_i2l C d_X12_quoteOut_51 ?_
          refine z_iload_n (j := 2) C d_X12_quoteOut_52 rfl ?_
          obtain ⟨q53, hF, hf⟩ := bd hf
          refine z_callS1 (rest := [aJ (p3.toInt64), aI p2, aI p1, aR 20]) C [aI p2] k_X12_endOf tw_1674 ⟨by decide, by decide⟩ (Nat.le_of_ble_eq_true rfl) d_X12_quoteOut_53 (c_X12_endOf C.inj hF) rfl ?_
          refine z_iconst (v := 1) C d_X12_quoteOut_56 (by decide) ?_
          obtain ⟨q57, hF, hf⟩ := bd hf
          refine z_callV0 (rest := []) C [aI p1, aI p2, aJ (p3.toInt64), aI q53.1, aI 1] rfl (by decide) rfl rfl k_X12_swaps tw_1608 ⟨by decide, by decide⟩ (Nat.le_of_ble_eq_true rfl) d_X12_quoteOut_57 (c_X12_swaps C.inj hF) rfl ?_
          refine z_aload_n (j := 0) C d_X12_quoteOut_60 rfl ?_
          refine z_iload_n (j := 1) C d_X12_quoteOut_61 rfl ?_
          obtain ⟨q62, hF, hf⟩ := bd hf
          refine z_callV1 (rest := []) C [aI p1] rfl (by decide) rfl rfl k_X12_zoneNow tw_1499 ⟨by decide, by decide⟩ (Nat.le_of_ble_eq_true rfl) d_X12_quoteOut_62 (c_X12_zoneNow C.inj hF) rfl ?_
          refine z_istore (lv' := [(5, aI q62.1), (0, aR 20), (1, aI p1), (2, aI p2), (3, aI p3), (4, aI p4)]) C d_X12_quoteOut_65 (by decide) rfl ?_
          refine z_aload_n (j := 1) C d_X12_quoteOut_67 rfl ?_
          refine z_iconst (v := 0) C d_X12_quoteOut_68 (by decide) ?_
          obtain ⟨q69, hF, hf⟩ := bd hf
          refine z_callV0 (rest := []) C [aI 0] rfl (by decide) rfl rfl k_X12_laysBack tw_1677 ⟨by decide, by decide⟩ (Nat.le_of_ble_eq_true rfl) d_X12_quoteOut_69 (c_X12_laysBack C.inj hF) rfl ?_
          refine z_aload_n (j := 1) C d_X12_quoteOut_72 rfl ?_
          refine zg_X12_left C rfl tw_1240 d_X12_quoteOut_73 ?_
          refine z_lconst (v := 0) C d_X12_quoteOut_76 (by decide) ?_
          refine z_lle (tgt := 84) C d_X12_quoteOut_77 d_X12_quoteOut_78 (by decide) hf (fun c77 hf => ?_) (fun c77 hf => ?_)
          · refine z_iload (j := 5) C d_X12_quoteOut_84 rfl ?_
            refine z_if_ne (tgt := 97) C d_X12_quoteOut_86 (by decide) hf (fun c86 hf => ?_) (fun c86 hf => ?_)
            · refine z_iload (j := 5) C d_X12_quoteOut_97 rfl ?_
              refine z_iconst (v := 1) C d_X12_quoteOut_99 (by decide) ?_
              refine z_icmp_ne (tgt := 111) C d_X12_quoteOut_100 (by decide) hf (fun c100 hf => ?_) (fun c100 hf => ?_)
              · refine z_iload (j := 5) C d_X12_quoteOut_111 rfl ?_
                refine z_iconst (v := 2) C d_X12_quoteOut_113 (by decide) ?_
                refine z_icmp_ne (tgt := 122) C d_X12_quoteOut_114 (by decide) hf (fun c114 hf => ?_) (fun c114 hf => ?_)
                · refine z_aload_n (j := 1) C d_X12_quoteOut_122 rfl ?_
                  refine zg_X12_crossed C rfl tw_1244 d_X12_quoteOut_123 ?_
                  exact z_sub [] rfl (t_X12_quoteOut_126 C hr  _ _ hf)
                · refine z_iload (j := 0) C d_X12_quoteOut_117 rfl ?_
                  refine z_goto (tgt := 126) C d_X12_quoteOut_119 (by decide) ?_
                  exact z_sub [] rfl (t_X12_quoteOut_126 C hr  _ _ hf)
              · refine z_aload_n (j := 1) C d_X12_quoteOut_103 rfl ?_
                refine zg_X12_fees C rfl tw_1243 d_X12_quoteOut_104 ?_
                refine z_l2i C d_X12_quoteOut_107 ?_
                refine z_goto (tgt := 126) C d_X12_quoteOut_108 (by decide) ?_
                exact z_sub [] rfl (t_X12_quoteOut_126 C hr  _ _ hf)
            · refine z_aload_n (j := 1) C d_X12_quoteOut_89 rfl ?_
              refine zg_X12_came C rfl tw_1241 d_X12_quoteOut_90 ?_
              refine z_l2i C d_X12_quoteOut_93 ?_
              refine z_goto (tgt := 126) C d_X12_quoteOut_94 (by decide) ?_
              exact z_sub [] rfl (t_X12_quoteOut_126 C hr  _ _ hf)
          · refine z_bipush (v := (-2)) C d_X12_quoteOut_81 (by decide) ?_
            exact r_i C hr rfl d_X12_quoteOut_83 hf
        · exact z_sub [] rfl (t_X12_quoteOut_40 C hr  _ hf)
theorem d_X12_round_0 : decode cX12_round 0 = .ok (.aload_n 0, 1) := by decide +kernel
theorem d_X12_round_1 : decode cX12_round 1 = .ok (.iload_n 1, 1) := by decide +kernel
theorem d_X12_round_2 : decode cX12_round 2 = .ok (.invokevirtual 284, 3) := by decide +kernel
theorem d_X12_round_5 : decode cX12_round 5 = .ok (.ifCond .eq 22, 3) := by decide +kernel
theorem d_X12_round_8 : decode cX12_round 8 = .ok (.iload_n 2, 1) := by decide +kernel
theorem d_X12_round_9 : decode cX12_round 9 = .ok (.invokestatic 388, 3) := by decide +kernel
theorem d_X12_round_12 : decode cX12_round 12 = .ok (.ifCond .eq 15, 3) := by decide +kernel
theorem d_X12_round_15 : decode cX12_round 15 = .ok (.iload_n 3, 1) := by decide +kernel
theorem d_X12_round_16 : decode cX12_round 16 = .ok (.i2l, 1) := by decide +kernel
theorem d_X12_round_17 : decode cX12_round 17 = .ok (.lconst 1, 1) := by decide +kernel
theorem d_X12_round_18 : decode cX12_round 18 = .ok (.ldc2_w 386, 3) := by decide +kernel
theorem d_X12_round_21 : decode cX12_round 21 = .ok (.invokestatic 137, 3) := by decide +kernel
theorem d_X12_round_24 : decode cX12_round 24 = .ok (.ifCond .ne 5, 3) := by decide +kernel
theorem d_X12_round_27 : decode cX12_round 27 = .ok (.iconst (-1), 1) := by decide +kernel
theorem d_X12_round_28 : decode cX12_round 28 = .ok (.ireturn, 1) := by decide +kernel
theorem d_X12_round_29 : decode cX12_round 29 = .ok (.aload_n 0, 1) := by decide +kernel
theorem d_X12_round_30 : decode cX12_round 30 = .ok (.iconst 0, 1) := by decide +kernel
theorem d_X12_round_31 : decode cX12_round 31 = .ok (.invokevirtual 401, 3) := by decide +kernel
theorem d_X12_round_34 : decode cX12_round 34 = .ok (.aload_n 0, 1) := by decide +kernel
theorem d_X12_round_35 : decode cX12_round 35 = .ok (.iload_n 1, 1) := by decide +kernel
theorem d_X12_round_36 : decode cX12_round 36 = .ok (.iload_n 2, 1) := by decide +kernel
theorem d_X12_round_37 : decode cX12_round 37 = .ok (.iload_n 3, 1) := by decide +kernel
theorem d_X12_round_38 : decode cX12_round 38 = .ok (.i2l, 1) := by decide +kernel
theorem d_X12_round_39 : decode cX12_round 39 = .ok (.iload_n 2, 1) := by decide +kernel
theorem d_X12_round_40 : decode cX12_round 40 = .ok (.invokestatic 404, 3) := by decide +kernel
theorem d_X12_round_43 : decode cX12_round 43 = .ok (.iconst 0, 1) := by decide +kernel
theorem d_X12_round_44 : decode cX12_round 44 = .ok (.invokevirtual 394, 3) := by decide +kernel
theorem d_X12_round_47 : decode cX12_round 47 = .ok (.aload_n 0, 1) := by decide +kernel
theorem d_X12_round_48 : decode cX12_round 48 = .ok (.getfield 352, 3) := by decide +kernel
theorem d_X12_round_51 : decode cX12_round 51 = .ok (.lstore 4, 2) := by decide +kernel
theorem d_X12_round_53 : decode cX12_round 53 = .ok (.lload 4, 2) := by decide +kernel
theorem d_X12_round_55 : decode cX12_round 55 = .ok (.lconst 0, 1) := by decide +kernel
theorem d_X12_round_56 : decode cX12_round 56 = .ok (.lcmp, 1) := by decide +kernel
theorem d_X12_round_57 : decode cX12_round 57 = .ok (.ifCond .le 20, 3) := by decide +kernel
theorem d_X12_round_60 : decode cX12_round 60 = .ok (.aload_n 0, 1) := by decide +kernel
theorem d_X12_round_61 : decode cX12_round 61 = .ok (.iload_n 1, 1) := by decide +kernel
theorem d_X12_round_62 : decode cX12_round 62 = .ok (.iconst 1, 1) := by decide +kernel
theorem d_X12_round_63 : decode cX12_round 63 = .ok (.iload_n 2, 1) := by decide +kernel
theorem d_X12_round_64 : decode cX12_round 64 = .ok (.isub, 1) := by decide +kernel
theorem d_X12_round_65 : decode cX12_round 65 = .ok (.lload 4, 2) := by decide +kernel
theorem d_X12_round_67 : decode cX12_round 67 = .ok (.iconst 1, 1) := by decide +kernel
theorem d_X12_round_68 : decode cX12_round 68 = .ok (.iload_n 2, 1) := by decide +kernel
theorem d_X12_round_69 : decode cX12_round 69 = .ok (.isub, 1) := by decide +kernel
theorem d_X12_round_70 : decode cX12_round 70 = .ok (.invokestatic 404, 3) := by decide +kernel
theorem d_X12_round_73 : decode cX12_round 73 = .ok (.iconst 0, 1) := by decide +kernel
theorem d_X12_round_74 : decode cX12_round 74 = .ok (.invokevirtual 394, 3) := by decide +kernel
theorem d_X12_round_77 : decode cX12_round 77 = .ok (.aload_n 0, 1) := by decide +kernel
theorem d_X12_round_78 : decode cX12_round 78 = .ok (.iconst 0, 1) := by decide +kernel
theorem d_X12_round_79 : decode cX12_round 79 = .ok (.invokevirtual 407, 3) := by decide +kernel
theorem d_X12_round_82 : decode cX12_round 82 = .ok (.lload 4, 2) := by decide +kernel
theorem d_X12_round_84 : decode cX12_round 84 = .ok (.lconst 0, 1) := by decide +kernel
theorem d_X12_round_85 : decode cX12_round 85 = .ok (.lcmp, 1) := by decide +kernel
theorem d_X12_round_86 : decode cX12_round 86 = .ok (.ifCond .ne 7, 3) := by decide +kernel
theorem d_X12_round_89 : decode cX12_round 89 = .ok (.iconst 0, 1) := by decide +kernel
theorem d_X12_round_90 : decode cX12_round 90 = .ok (.goto 8, 3) := by decide +kernel
theorem d_X12_round_93 : decode cX12_round 93 = .ok (.aload_n 0, 1) := by decide +kernel
theorem d_X12_round_94 : decode cX12_round 94 = .ok (.getfield 352, 3) := by decide +kernel
theorem d_X12_round_97 : decode cX12_round 97 = .ok (.l2i, 1) := by decide +kernel
theorem d_X12_round_98 : decode cX12_round 98 = .ok (.ireturn, 1) := by decide +kernel
def f_X12_round_27 (S : Mem) : Option (Int32 × Mem) := (some ((-1), S))
set_option maxRecDepth 20000 in
theorem t_X12_round_27 {X : MC} {Γ : GG} (C : CX X Γ cX12_round 6 "TickPoolsModel" 7 206) (hr : X.2.2.2.2.2.2.2.2.1.sig.returnType = some .int) {q : Int32 × Mem} (S : Mem) (hf : f_X12_round_27 S = some q) : ZZ X Γ 6 (QQ X Γ (some (aI q.1)) q.2) S 27 [] [] := by
  unfold f_X12_round_27 at hf
  refine z_iconst (v := (-1)) C d_X12_round_27 (by decide) ?_
  exact r_i C hr rfl d_X12_round_28 hf
def f_X12_round_98 (s0 : Int32) (S : Mem) : Option (Int32 × Mem) := (some (s0, S))
set_option maxRecDepth 20000 in
theorem t_X12_round_98 {X : MC} {Γ : GG} (C : CX X Γ cX12_round 6 "TickPoolsModel" 7 206) (hr : X.2.2.2.2.2.2.2.2.1.sig.returnType = some .int) {q : Int32 × Mem} (s0 : Int32) (S : Mem) (hf : f_X12_round_98 s0 S = some q) : ZZ X Γ 6 (QQ X Γ (some (aI q.1)) q.2) S 98 [] [aI s0] := by
  unfold f_X12_round_98 at hf
  exact r_i C hr rfl d_X12_round_98 hf
def f_X12_round_77 (v4 : Int64) (S : Mem) : Option (Int32 × Mem) := ((f_X12_laysBack 0 S).bind fun q79 => (if v4 = 0 then (f_X12_round_98  0 q79.2) else (f_X12_round_98  (((gL q79.2 20 31) : Int64).toInt32) q79.2)))
set_option maxRecDepth 20000 in
theorem t_X12_round_77 {X : MC} {Γ : GG} (C : CX X Γ cX12_round 6 "TickPoolsModel" 7 206) (hr : X.2.2.2.2.2.2.2.2.1.sig.returnType = some .int) {q : Int32 × Mem} (v4 : Int64) (S : Mem) (hf : f_X12_round_77 v4 S = some q) : ZZ X Γ 6 (QQ X Γ (some (aI q.1)) q.2) S 77 [(0, aR 20), (4, aJ v4)] [] := by
  unfold f_X12_round_77 at hf
  refine z_aload_n (j := 0) C d_X12_round_77 rfl ?_
  refine z_iconst (v := 0) C d_X12_round_78 (by decide) ?_
  obtain ⟨q79, hF, hf⟩ := bd hf
  refine z_callV0 (rest := []) C [aI 0] rfl (by decide) rfl rfl k_X12_laysBack tw_1677 ⟨by decide, by decide⟩ (Nat.le_of_ble_eq_true rfl) d_X12_round_79 (c_X12_laysBack C.inj hF) rfl ?_
  refine z_lload (j := 1) C d_X12_round_82 rfl ?_
  refine z_lconst (v := 0) C d_X12_round_84 (by decide) ?_
  refine z_lne (tgt := 93) C d_X12_round_85 d_X12_round_86 (by decide) hf (fun c85 hf => ?_) (fun c85 hf => ?_)
  · refine z_aload_n (j := 0) C d_X12_round_93 rfl ?_
    refine zg_X12_gone C rfl tw_1242 d_X12_round_94 ?_
    refine z_l2i C d_X12_round_97 ?_
    exact z_sub [] rfl (t_X12_round_98 C hr  _ _ hf)
  · refine z_iconst (v := 0) C d_X12_round_89 (by decide) ?_
    refine z_goto (tgt := 98) C d_X12_round_90 (by decide) ?_
    exact z_sub [] rfl (t_X12_round_98 C hr  _ _ hf)
def f_X12_round_53 (v1 : Int32) (v2 : Int32) (v4 : Int64) (S : Mem) : Option (Int32 × Mem) := (if v4 ≤ 0 then (f_X12_round_77  v4 S) else ((f_X12_endOf (1 - v2) S).bind fun q70 => ((f_X12_swaps v1 (1 - v2) v4 q70.1 0 q70.2).bind fun q74 => (f_X12_round_77  v4 q74.2))))
set_option maxRecDepth 20000 in
theorem t_X12_round_53 {X : MC} {Γ : GG} (C : CX X Γ cX12_round 6 "TickPoolsModel" 7 206) (hr : X.2.2.2.2.2.2.2.2.1.sig.returnType = some .int) {q : Int32 × Mem} (v1 : Int32) (v2 : Int32) (v4 : Int64) (S : Mem) (hf : f_X12_round_53 v1 v2 v4 S = some q) : ZZ X Γ 6 (QQ X Γ (some (aI q.1)) q.2) S 53 [(0, aR 20), (1, aI v1), (2, aI v2), (4, aJ v4)] [] := by
  unfold f_X12_round_53 at hf
  refine z_lload (j := 3) C d_X12_round_53 rfl ?_
  refine z_lconst (v := 0) C d_X12_round_55 (by decide) ?_
  refine z_lle (tgt := 77) C d_X12_round_56 d_X12_round_57 (by decide) hf (fun c56 hf => ?_) (fun c56 hf => ?_)
  · exact z_sub [0, 3] rfl (t_X12_round_77 C hr  _ _ hf)
  · refine z_aload_n (j := 0) C d_X12_round_60 rfl ?_
    refine z_iload_n (j := 1) C d_X12_round_61 rfl ?_
    refine z_iconst (v := 1) C d_X12_round_62 (by decide) ?_
    refine z_iload_n (j := 2) C d_X12_round_63 rfl ?_
    refine z_isub C d_X12_round_64 ?_
    refine z_lload (j := 3) C d_X12_round_65 rfl ?_
    refine z_iconst (v := 1) C d_X12_round_67 (by decide) ?_
    refine z_iload_n (j := 2) C d_X12_round_68 rfl ?_
    refine z_isub C d_X12_round_69 ?_
    obtain ⟨q70, hF, hf⟩ := bd hf
    refine z_callS1 (rest := [aJ v4, aI (1 - v2), aI v1, aR 20]) C [aI (1 - v2)] k_X12_endOf tw_1674 ⟨by decide, by decide⟩ (Nat.le_of_ble_eq_true rfl) d_X12_round_70 (c_X12_endOf C.inj hF) rfl ?_
    refine z_iconst (v := 0) C d_X12_round_73 (by decide) ?_
    obtain ⟨q74, hF, hf⟩ := bd hf
    refine z_callV0 (rest := []) C [aI v1, aI (1 - v2), aJ v4, aI q70.1, aI 0] rfl (by decide) rfl rfl k_X12_swaps tw_1608 ⟨by decide, by decide⟩ (Nat.le_of_ble_eq_true rfl) d_X12_round_74 (c_X12_swaps C.inj hF) rfl ?_
    exact z_sub [0, 3] rfl (t_X12_round_77 C hr  _ _ hf)
/-- TickPoolsModel.round(III)I -/
def f_X12_round (p1 : Int32) (p2 : Int32) (p3 : Int32) (S : Mem) : Option (Int32 × Mem) := ((f_X12_isPool p1 S).bind fun q2 => (if q2.1 = 0 then (f_X12_round_27  q2.2) else ((f_X12_isSide p2 q2.2).bind fun q9 => (if q9.1 = 0 then (f_X12_round_27  q9.2) else ((f_X12_isIn (p3.toInt64) 1 9999999 q9.2).bind fun q21 => (if q21.1 = 0 then (f_X12_round_27  q21.2) else ((f_X12_keeps 0 q21.2).bind fun q31 => ((f_X12_endOf p2 q31.2).bind fun q40 => ((f_X12_swaps p1 p2 (p3.toInt64) q40.1 0 q40.2).bind fun q44 => (f_X12_round_53  p1 p2 (gL q44.2 20 31) q44.2))))))))))
set_option maxRecDepth 20000 in
theorem c_X12_round {l : Launch} {Γ : GG} (hI : Inj Γ) {p1 : Int32} {p2 : Int32} {p3 : Int32} {S : Mem} {q : Int32 × Mem} (hf : f_X12_round p1 p2 p3 S = some q) : MM l Γ yX12_round cX12_round 6 (some .int) 7 206 [aR 20, aI p1, aI p2, aI p3] S (some (aI q.1)) q.2 := by
  refine met_of hI "TickPoolsModel" rfl (by decide +kernel) (Nat.le_of_ble_eq_true rfl) (fun X hX C hr => ?_)
  unfold f_X12_round at hf
  show ZZ X Γ 6 _ S 0 [(0, aR 20), (1, aI p1), (2, aI p2), (3, aI p3)] []
  refine z_aload_n (j := 0) C d_X12_round_0 rfl ?_
  refine z_iload_n (j := 1) C d_X12_round_1 rfl ?_
  obtain ⟨q2, hF, hf⟩ := bd hf
  refine z_callV1 (rest := []) C [aI p1] rfl (by decide) rfl rfl k_X12_isPool tw_1471 ⟨by decide, by decide⟩ (Nat.le_of_ble_eq_true rfl) d_X12_round_2 (c_X12_isPool C.inj hF) rfl ?_
  refine z_if_eq (tgt := 27) C d_X12_round_5 (by decide) hf (fun c5 hf => ?_) (fun c5 hf => ?_)
  · exact z_sub [] rfl (t_X12_round_27 C hr  _ hf)
  · refine z_iload_n (j := 2) C d_X12_round_8 rfl ?_
    obtain ⟨q9, hF, hf⟩ := bd hf
    refine z_callS1 (rest := []) C [aI p2] k_X12_isSide tw_1600 ⟨by decide, by decide⟩ (Nat.le_of_ble_eq_true rfl) d_X12_round_9 (c_X12_isSide C.inj hF) rfl ?_
    refine z_if_eq (tgt := 27) C d_X12_round_12 (by decide) hf (fun c12 hf => ?_) (fun c12 hf => ?_)
    · exact z_sub [] rfl (t_X12_round_27 C hr  _ hf)
    · refine z_iload_n (j := 3) C d_X12_round_15 rfl ?_
      refine z_i2l C d_X12_round_16 ?_
      refine z_lconst (v := 1) C d_X12_round_17 (by decide) ?_
      refine z_ldc2 (v := 9999999) C tw_1595 d_X12_round_18 ?_
      obtain ⟨q21, hF, hf⟩ := bd hf
      refine z_callS1 (rest := []) C [aJ (p3.toInt64), aJ 1, aJ 9999999] k_X12_isIn tw_1385 ⟨by decide, by decide⟩ (Nat.le_of_ble_eq_true rfl) d_X12_round_21 (c_X12_isIn C.inj hF) rfl ?_
      refine z_if_ne (tgt := 29) C d_X12_round_24 (by decide) hf (fun c24 hf => ?_) (fun c24 hf => ?_)
      · refine z_aload_n (j := 0) C d_X12_round_29 rfl ?_
        refine z_iconst (v := 0) C d_X12_round_30 (by decide) ?_
        obtain ⟨q31, hF, hf⟩ := bd hf
        refine z_callV0 (rest := []) C [aI 0] rfl (by decide) rfl rfl k_X12_keeps tw_1670 ⟨by decide, by decide⟩ (Nat.le_of_ble_eq_true rfl) d_X12_round_31 (c_X12_keeps C.inj hF) rfl ?_
        refine z_aload_n (j := 0) C d_X12_round_34 rfl ?_
        refine z_iload_n (j := 1) C d_X12_round_35 rfl ?_
        refine z_iload_n (j := 2) C d_X12_round_36 rfl ?_
        refine z_iload_n (j := 3) C d_X12_round_37 rfl ?_
        refine z_i2l C d_X12_round_38 ?_
        refine z_iload_n (j := 2) C d_X12_round_39 rfl ?_
        obtain ⟨q40, hF, hf⟩ := bd hf
        refine z_callS1 (rest := [aJ (p3.toInt64), aI p2, aI p1, aR 20]) C [aI p2] k_X12_endOf tw_1674 ⟨by decide, by decide⟩ (Nat.le_of_ble_eq_true rfl) d_X12_round_40 (c_X12_endOf C.inj hF) rfl ?_
        refine z_iconst (v := 0) C d_X12_round_43 (by decide) ?_
        obtain ⟨q44, hF, hf⟩ := bd hf
        refine z_callV0 (rest := []) C [aI p1, aI p2, aJ (p3.toInt64), aI q40.1, aI 0] rfl (by decide) rfl rfl k_X12_swaps tw_1608 ⟨by decide, by decide⟩ (Nat.le_of_ble_eq_true rfl) d_X12_round_44 (c_X12_swaps C.inj hF) rfl ?_
        refine z_aload_n (j := 0) C d_X12_round_47 rfl ?_
        refine zg_X12_gone C rfl tw_1242 d_X12_round_48 ?_
        refine z_lstore (lv' := [(4, aJ (gL q44.2 20 31)), (0, aR 20), (1, aI p1), (2, aI p2), (3, aI p3)]) C d_X12_round_51 (by decide) rfl ?_
        exact z_sub [1, 2, 3, 0] rfl (t_X12_round_53 C hr  _ _ _ _ hf)
      · exact z_sub [] rfl (t_X12_round_27 C hr  _ hf)
theorem d_X12_isThere_0 : decode cX12_isThere 0 = .ok (.iload_n 0, 1) := by decide +kernel
theorem d_X12_isThere_1 : decode cX12_isThere 1 = .ok (.ifCond .ne 16, 3) := by decide +kernel
theorem d_X12_isThere_4 : decode cX12_isThere 4 = .ok (.iload_n 1, 1) := by decide +kernel
theorem d_X12_isThere_5 : decode cX12_isThere 5 = .ok (.iload_n 2, 1) := by decide +kernel
theorem d_X12_isThere_6 : decode cX12_isThere 6 = .ok (.if_icmp .gt 7, 3) := by decide +kernel
theorem d_X12_isThere_9 : decode cX12_isThere 9 = .ok (.iconst 1, 1) := by decide +kernel
theorem d_X12_isThere_10 : decode cX12_isThere 10 = .ok (.goto 17, 3) := by decide +kernel
theorem d_X12_isThere_13 : decode cX12_isThere 13 = .ok (.iconst 0, 1) := by decide +kernel
theorem d_X12_isThere_14 : decode cX12_isThere 14 = .ok (.goto 13, 3) := by decide +kernel
theorem d_X12_isThere_17 : decode cX12_isThere 17 = .ok (.iload_n 1, 1) := by decide +kernel
theorem d_X12_isThere_18 : decode cX12_isThere 18 = .ok (.iload_n 2, 1) := by decide +kernel
theorem d_X12_isThere_19 : decode cX12_isThere 19 = .ok (.if_icmp .lt 7, 3) := by decide +kernel
theorem d_X12_isThere_22 : decode cX12_isThere 22 = .ok (.iconst 1, 1) := by decide +kernel
theorem d_X12_isThere_23 : decode cX12_isThere 23 = .ok (.goto 4, 3) := by decide +kernel
theorem d_X12_isThere_26 : decode cX12_isThere 26 = .ok (.iconst 0, 1) := by decide +kernel
theorem d_X12_isThere_27 : decode cX12_isThere 27 = .ok (.ireturn, 1) := by decide +kernel
def f_X12_isThere_27 (s0 : Int32) (S : Mem) : Option (Int32 × Mem) := (if isB s0 = true then (some (s0, S)) else none)
set_option maxRecDepth 20000 in
theorem t_X12_isThere_27 {X : MC} {Γ : GG} (C : CX X Γ cX12_isThere 3 "TickPoolsModel" 0 0) (hr : X.2.2.2.2.2.2.2.2.1.sig.returnType = some .boolean) {q : Int32 × Mem} (s0 : Int32) (S : Mem) (hf : f_X12_isThere_27 s0 S = some q) : ZZ X Γ 3 (QQ X Γ (some (aI q.1)) q.2) S 27 [] [aI s0] := by
  unfold f_X12_isThere_27 at hf
  obtain ⟨hb27_0, hf⟩ := gd hf
  exact r_i C hr (isB_nar hb27_0).1 d_X12_isThere_27 hf
/-- TickPoolsModel.isThere(III)Z -/
def f_X12_isThere (p0 : Int32) (p1 : Int32) (p2 : Int32) (S : Mem) : Option (Int32 × Mem) := (if p0 = 0 then (if p2 < p1 then (f_X12_isThere_27  0 S) else (f_X12_isThere_27  1 S)) else (if p1 < p2 then (f_X12_isThere_27  0 S) else (f_X12_isThere_27  1 S)))
set_option maxRecDepth 20000 in
theorem c_X12_isThere {l : Launch} {Γ : GG} (hI : Inj Γ) {p0 : Int32} {p1 : Int32} {p2 : Int32} {S : Mem} {q : Int32 × Mem} (hf : f_X12_isThere p0 p1 p2 S = some q) : MM l Γ yX12_isThere cX12_isThere 3 (some .boolean) 0 0 [aI p0, aI p1, aI p2] S (some (aI q.1)) q.2 := by
  refine met_of hI "TickPoolsModel" rfl (by decide +kernel) (Nat.le_of_ble_eq_true rfl) (fun X hX C hr => ?_)
  unfold f_X12_isThere at hf
  show ZZ X Γ 3 _ S 0 [(0, aI p0), (1, aI p1), (2, aI p2)] []
  refine z_iload_n (j := 0) C d_X12_isThere_0 rfl ?_
  refine z_if_ne (tgt := 17) C d_X12_isThere_1 (by decide) hf (fun c1 hf => ?_) (fun c1 hf => ?_)
  · refine z_iload_n (j := 1) C d_X12_isThere_17 rfl ?_
    refine z_iload_n (j := 2) C d_X12_isThere_18 rfl ?_
    refine z_icmp_lt (tgt := 26) C d_X12_isThere_19 (by decide) hf (fun c19 hf => ?_) (fun c19 hf => ?_)
    · refine z_iconst (v := 0) C d_X12_isThere_26 (by decide) ?_
      exact z_sub [] rfl (t_X12_isThere_27 C hr  _ _ hf)
    · refine z_iconst (v := 1) C d_X12_isThere_22 (by decide) ?_
      refine z_goto (tgt := 27) C d_X12_isThere_23 (by decide) ?_
      exact z_sub [] rfl (t_X12_isThere_27 C hr  _ _ hf)
  · refine z_iload_n (j := 1) C d_X12_isThere_4 rfl ?_
    refine z_iload_n (j := 2) C d_X12_isThere_5 rfl ?_
    refine z_icmp_gt (tgt := 13) C d_X12_isThere_6 (by decide) hf (fun c6 hf => ?_) (fun c6 hf => ?_)
    · refine z_iconst (v := 0) C d_X12_isThere_13 (by decide) ?_
      refine z_goto (tgt := 27) C d_X12_isThere_14 (by decide) ?_
      exact z_sub [] rfl (t_X12_isThere_27 C hr  _ _ hf)
    · refine z_iconst (v := 1) C d_X12_isThere_9 (by decide) ?_
      refine z_goto (tgt := 27) C d_X12_isThere_10 (by decide) ?_
      exact z_sub [] rfl (t_X12_isThere_27 C hr  _ _ hf)
theorem d_X12_zoneWithin_0 : decode cX12_zoneWithin 0 = .ok (.aload_n 0, 1) := by decide +kernel
theorem d_X12_zoneWithin_1 : decode cX12_zoneWithin 1 = .ok (.iload_n 1, 1) := by decide +kernel
theorem d_X12_zoneWithin_2 : decode cX12_zoneWithin 2 = .ok (.aload_n 0, 1) := by decide +kernel
theorem d_X12_zoneWithin_3 : decode cX12_zoneWithin 3 = .ok (.aload_n 0, 1) := by decide +kernel
theorem d_X12_zoneWithin_4 : decode cX12_zoneWithin 4 = .ok (.iload_n 1, 1) := by decide +kernel
theorem d_X12_zoneWithin_5 : decode cX12_zoneWithin 5 = .ok (.iload_n 2, 1) := by decide +kernel
theorem d_X12_zoneWithin_6 : decode cX12_zoneWithin 6 = .ok (.lload 4, 2) := by decide +kernel
theorem d_X12_zoneWithin_8 : decode cX12_zoneWithin 8 = .ok (.sipush 1000, 3) := by decide +kernel
theorem d_X12_zoneWithin_11 : decode cX12_zoneWithin 11 = .ok (.aload_n 0, 1) := by decide +kernel
theorem d_X12_zoneWithin_12 : decode cX12_zoneWithin 12 = .ok (.iload_n 1, 1) := by decide +kernel
theorem d_X12_zoneWithin_13 : decode cX12_zoneWithin 13 = .ok (.invokevirtual 319, 3) := by decide +kernel
theorem d_X12_zoneWithin_16 : decode cX12_zoneWithin 16 = .ok (.isub, 1) := by decide +kernel
theorem d_X12_zoneWithin_17 : decode cX12_zoneWithin 17 = .ok (.i2l, 1) := by decide +kernel
theorem d_X12_zoneWithin_18 : decode cX12_zoneWithin 18 = .ok (.lmul, 1) := by decide +kernel
theorem d_X12_zoneWithin_19 : decode cX12_zoneWithin 19 = .ok (.ldc2_w 329, 3) := by decide +kernel
theorem d_X12_zoneWithin_22 : decode cX12_zoneWithin 22 = .ok (.ldiv, 1) := by decide +kernel
theorem d_X12_zoneWithin_23 : decode cX12_zoneWithin 23 = .ok (.invokevirtual 339, 3) := by decide +kernel
theorem d_X12_zoneWithin_26 : decode cX12_zoneWithin 26 = .ok (.invokevirtual 212, 3) := by decide +kernel
theorem d_X12_zoneWithin_29 : decode cX12_zoneWithin 29 = .ok (.iload_n 2, 1) := by decide +kernel
theorem d_X12_zoneWithin_30 : decode cX12_zoneWithin 30 = .ok (.iload_n 3, 1) := by decide +kernel
theorem d_X12_zoneWithin_31 : decode cX12_zoneWithin 31 = .ok (.invokevirtual 358, 3) := by decide +kernel
theorem d_X12_zoneWithin_34 : decode cX12_zoneWithin 34 = .ok (.ireturn, 1) := by decide +kernel
/-- TickPoolsModel.zoneWithin(IIIJ)I -/
def f_X12_zoneWithin (p1 : Int32) (p2 : Int32) (p3 : Int32) (p4 : Int64) (S : Mem) : Option (Int32 × Mem) := ((f_X12_feeOf p1 S).bind fun q13 => ((f_X12_rootBy p1 p2 ((p4 * (((1000 - q13.1) : Int32).toInt64)) / 1000) q13.2).bind fun q23 => ((f_X12_zoneOf q23.1 q23.2).bind fun q26 => ((f_X12_zoneBy p1 q26.1 p2 p3 q26.2).bind fun q31 => (some (q31.1, q31.2))))))
set_option maxRecDepth 20000 in
theorem c_X12_zoneWithin {l : Launch} {Γ : GG} (hI : Inj Γ) {p1 : Int32} {p2 : Int32} {p3 : Int32} {p4 : Int64} {S : Mem} {q : Int32 × Mem} (hf : f_X12_zoneWithin p1 p2 p3 p4 S = some q) : MM l Γ yX12_zoneWithin cX12_zoneWithin 6 (some .int) 4 98 [aR 20, aI p1, aI p2, aI p3, aJ p4] S (some (aI q.1)) q.2 := by
  refine met_of hI "TickPoolsModel" rfl (by decide +kernel) (Nat.le_of_ble_eq_true rfl) (fun X hX C hr => ?_)
  unfold f_X12_zoneWithin at hf
  show ZZ X Γ 6 _ S 0 [(0, aR 20), (1, aI p1), (2, aI p2), (3, aI p3), (4, aJ p4)] []
  refine z_aload_n (j := 0) C d_X12_zoneWithin_0 rfl ?_
  refine z_iload_n (j := 1) C d_X12_zoneWithin_1 rfl ?_
  refine z_aload_n (j := 0) C d_X12_zoneWithin_2 rfl ?_
  refine z_aload_n (j := 0) C d_X12_zoneWithin_3 rfl ?_
  refine z_iload_n (j := 1) C d_X12_zoneWithin_4 rfl ?_
  refine z_iload_n (j := 2) C d_X12_zoneWithin_5 rfl ?_
  refine z_lload (j := 4) C d_X12_zoneWithin_6 rfl ?_
  refine z_sipush (v := 1000) C d_X12_zoneWithin_8 (by decide) ?_
  refine z_aload_n (j := 0) C d_X12_zoneWithin_11 rfl ?_
  refine z_iload_n (j := 1) C d_X12_zoneWithin_12 rfl ?_
  obtain ⟨q13, hF, hf⟩ := bd hf
  refine z_callW1 (rest := [aI 1000, aJ p4, aI p2, aI p1, aR 20, aR 20, aI p1, aR 20]) C [aI p1] rfl (by decide) rfl rfl k_X12_feeOf tw_1628 ⟨by decide, by decide⟩ (Nat.le_of_ble_eq_true rfl) d_X12_zoneWithin_13 (c_X12_feeOf C.inj hF) rfl ?_
  refine z_isub C d_X12_zoneWithin_16 ?_
  refine z_i2l C d_X12_zoneWithin_17 ?_
  refine z_lmul C d_X12_zoneWithin_18 ?_
  refine z_ldc2 (v := 1000) C tw_1632 d_X12_zoneWithin_19 ?_
  refine z_ldiv C d_X12_zoneWithin_22 (by decide) ?_
  obtain ⟨q23, hF, hf⟩ := bd hf
  refine z_callV1 (rest := [aR 20, aI p1, aR 20]) C [aI p1, aI p2, aJ ((p4 * (((1000 - q13.1) : Int32).toInt64)) / 1000)] rfl (by decide) rfl rfl k_X12_rootBy tw_1641 ⟨by decide, by decide⟩ (Nat.le_of_ble_eq_true rfl) d_X12_zoneWithin_23 (c_X12_rootBy C.inj hF) rfl ?_
  obtain ⟨q26, hF, hf⟩ := bd hf
  refine z_callV1 (rest := [aI p1, aR 20]) C [aJ q23.1] rfl (by decide) rfl rfl k_X12_zoneOf tw_1455 ⟨by decide, by decide⟩ (Nat.le_of_ble_eq_true rfl) d_X12_zoneWithin_26 (c_X12_zoneOf C.inj hF) rfl ?_
  refine z_iload_n (j := 2) C d_X12_zoneWithin_29 rfl ?_
  refine z_iload_n (j := 3) C d_X12_zoneWithin_30 rfl ?_
  obtain ⟨q31, hF, hf⟩ := bd hf
  refine z_callV1 (rest := []) C [aI p1, aI q26.1, aI p2, aI p3] rfl (by decide) rfl rfl k_X12_zoneBy tw_1654 ⟨by decide, by decide⟩ (Nat.le_of_ble_eq_true rfl) d_X12_zoneWithin_31 (c_X12_zoneBy C.inj hF) rfl ?_
  exact r_i C hr rfl d_X12_zoneWithin_34 hf
theorem d_X12_leastWithin_0 : decode cX12_leastWithin 0 = .ok (.lload 5, 2) := by decide +kernel
theorem d_X12_leastWithin_2 : decode cX12_leastWithin 2 = .ok (.lconst 1, 1) := by decide +kernel
theorem d_X12_leastWithin_3 : decode cX12_leastWithin 3 = .ok (.lcmp, 1) := by decide +kernel
theorem d_X12_leastWithin_4 : decode cX12_leastWithin 4 = .ok (.ifCond .le 23, 3) := by decide +kernel
theorem d_X12_leastWithin_7 : decode cX12_leastWithin 7 = .ok (.iload_n 2, 1) := by decide +kernel
theorem d_X12_leastWithin_8 : decode cX12_leastWithin 8 = .ok (.aload_n 0, 1) := by decide +kernel
theorem d_X12_leastWithin_9 : decode cX12_leastWithin 9 = .ok (.iload_n 1, 1) := by decide +kernel
theorem d_X12_leastWithin_10 : decode cX12_leastWithin 10 = .ok (.iload_n 2, 1) := by decide +kernel
theorem d_X12_leastWithin_11 : decode cX12_leastWithin 11 = .ok (.iload_n 3, 1) := by decide +kernel
theorem d_X12_leastWithin_12 : decode cX12_leastWithin 12 = .ok (.lload 5, 2) := by decide +kernel
theorem d_X12_leastWithin_14 : decode cX12_leastWithin 14 = .ok (.lconst 1, 1) := by decide +kernel
theorem d_X12_leastWithin_15 : decode cX12_leastWithin 15 = .ok (.lsub, 1) := by decide +kernel
theorem d_X12_leastWithin_16 : decode cX12_leastWithin 16 = .ok (.invokevirtual 514, 3) := by decide +kernel
theorem d_X12_leastWithin_19 : decode cX12_leastWithin 19 = .ok (.iload 4, 2) := by decide +kernel
theorem d_X12_leastWithin_21 : decode cX12_leastWithin 21 = .ok (.invokestatic 518, 3) := by decide +kernel
theorem d_X12_leastWithin_24 : decode cX12_leastWithin 24 = .ok (.ifCond .ne 7, 3) := by decide +kernel
theorem d_X12_leastWithin_27 : decode cX12_leastWithin 27 = .ok (.ldc2_w 382, 3) := by decide +kernel
theorem d_X12_leastWithin_30 : decode cX12_leastWithin 30 = .ok (.lreturn, 1) := by decide +kernel
theorem d_X12_leastWithin_31 : decode cX12_leastWithin 31 = .ok (.lconst 1, 1) := by decide +kernel
theorem d_X12_leastWithin_32 : decode cX12_leastWithin 32 = .ok (.lstore 7, 2) := by decide +kernel
theorem d_X12_leastWithin_34 : decode cX12_leastWithin 34 = .ok (.lload 5, 2) := by decide +kernel
theorem d_X12_leastWithin_36 : decode cX12_leastWithin 36 = .ok (.lconst 1, 1) := by decide +kernel
theorem d_X12_leastWithin_37 : decode cX12_leastWithin 37 = .ok (.lsub, 1) := by decide +kernel
theorem d_X12_leastWithin_38 : decode cX12_leastWithin 38 = .ok (.lstore 9, 2) := by decide +kernel
theorem d_X12_leastWithin_40 : decode cX12_leastWithin 40 = .ok (.lload 7, 2) := by decide +kernel
theorem d_X12_leastWithin_42 : decode cX12_leastWithin 42 = .ok (.lload 9, 2) := by decide +kernel
theorem d_X12_leastWithin_44 : decode cX12_leastWithin 44 = .ok (.lcmp, 1) := by decide +kernel
theorem d_X12_leastWithin_45 : decode cX12_leastWithin 45 = .ok (.ifCond .ge 48, 3) := by decide +kernel
theorem d_X12_leastWithin_48 : decode cX12_leastWithin 48 = .ok (.lload 7, 2) := by decide +kernel
theorem d_X12_leastWithin_50 : decode cX12_leastWithin 50 = .ok (.lload 9, 2) := by decide +kernel
theorem d_X12_leastWithin_52 : decode cX12_leastWithin 52 = .ok (.ladd, 1) := by decide +kernel
theorem d_X12_leastWithin_53 : decode cX12_leastWithin 53 = .ok (.ldc2_w 290, 3) := by decide +kernel
theorem d_X12_leastWithin_56 : decode cX12_leastWithin 56 = .ok (.ldiv, 1) := by decide +kernel
theorem d_X12_leastWithin_57 : decode cX12_leastWithin 57 = .ok (.lstore 11, 2) := by decide +kernel
theorem d_X12_leastWithin_59 : decode cX12_leastWithin 59 = .ok (.iload_n 2, 1) := by decide +kernel
theorem d_X12_leastWithin_60 : decode cX12_leastWithin 60 = .ok (.aload_n 0, 1) := by decide +kernel
theorem d_X12_leastWithin_61 : decode cX12_leastWithin 61 = .ok (.iload_n 1, 1) := by decide +kernel
theorem d_X12_leastWithin_62 : decode cX12_leastWithin 62 = .ok (.iload_n 2, 1) := by decide +kernel
theorem d_X12_leastWithin_63 : decode cX12_leastWithin 63 = .ok (.iload_n 3, 1) := by decide +kernel
theorem d_X12_leastWithin_64 : decode cX12_leastWithin 64 = .ok (.lload 11, 2) := by decide +kernel
theorem d_X12_leastWithin_66 : decode cX12_leastWithin 66 = .ok (.invokevirtual 514, 3) := by decide +kernel
theorem d_X12_leastWithin_69 : decode cX12_leastWithin 69 = .ok (.iload 4, 2) := by decide +kernel
theorem d_X12_leastWithin_71 : decode cX12_leastWithin 71 = .ok (.invokestatic 518, 3) := by decide +kernel
theorem d_X12_leastWithin_74 : decode cX12_leastWithin 74 = .ok (.ifCond .eq 10, 3) := by decide +kernel
theorem d_X12_leastWithin_77 : decode cX12_leastWithin 77 = .ok (.lload 11, 2) := by decide +kernel
theorem d_X12_leastWithin_79 : decode cX12_leastWithin 79 = .ok (.lstore 9, 2) := by decide +kernel
theorem d_X12_leastWithin_81 : decode cX12_leastWithin 81 = .ok (.goto 9, 3) := by decide +kernel
theorem d_X12_leastWithin_84 : decode cX12_leastWithin 84 = .ok (.lload 11, 2) := by decide +kernel
theorem d_X12_leastWithin_86 : decode cX12_leastWithin 86 = .ok (.lconst 1, 1) := by decide +kernel
theorem d_X12_leastWithin_87 : decode cX12_leastWithin 87 = .ok (.ladd, 1) := by decide +kernel
theorem d_X12_leastWithin_88 : decode cX12_leastWithin 88 = .ok (.lstore 7, 2) := by decide +kernel
theorem d_X12_leastWithin_90 : decode cX12_leastWithin 90 = .ok (.goto (-50), 3) := by decide +kernel
theorem d_X12_leastWithin_93 : decode cX12_leastWithin 93 = .ok (.lload 7, 2) := by decide +kernel
theorem d_X12_leastWithin_95 : decode cX12_leastWithin 95 = .ok (.lreturn, 1) := by decide +kernel
def f_X12_leastWithin_27 (S : Mem) : Option (Int64 × Mem) := (some ((-1), S))
set_option maxRecDepth 20000 in
theorem t_X12_leastWithin_27 {X : MC} {Γ : GG} (C : CX X Γ cX12_leastWithin 13 "TickPoolsModel" 5 123) (hr : X.2.2.2.2.2.2.2.2.1.sig.returnType = some .long) {q : Int64 × Mem} (S : Mem) (hf : f_X12_leastWithin_27 S = some q) : ZZ X Γ 13 (QQ X Γ (some (aJ q.1)) q.2) S 27 [] [] := by
  unfold f_X12_leastWithin_27 at hf
  refine z_ldc2 (v := (-1)) C tw_1607 d_X12_leastWithin_27 ?_
  exact r_l C hr d_X12_leastWithin_30 hf
def f_X12_leastWithin_90 (k40 : Int32 → Int32 → Int32 → Int32 → Int64 → Int64 → Mem → Option (Int64 × Mem)) (v1 : Int32) (v2 : Int32) (v3 : Int32) (v4 : Int32) (v7 : Int64) (v9 : Int64) (S : Mem) : Option (Int64 × Mem) := (k40 v1 v2 v3 v4 v7 v9 S)
set_option maxRecDepth 20000 in
theorem t_X12_leastWithin_90 {X : MC} {Γ : GG} (C : CX X Γ cX12_leastWithin 13 "TickPoolsModel" 5 123) (hr : X.2.2.2.2.2.2.2.2.1.sig.returnType = some .long) {k40 : Int32 → Int32 → Int32 → Int32 → Int64 → Int64 → Mem → Option (Int64 × Mem)} {q : Int64 × Mem} (hk40 : ∀ (v1 : Int32) (v2 : Int32) (v3 : Int32) (v4 : Int32) (v7 : Int64) (v9 : Int64) (S : Mem), k40 v1 v2 v3 v4 v7 v9 S = some q → ZZ X Γ 13 (QQ X Γ (some (aJ q.1)) q.2) S 40 [(0, aR 20), (1, aI v1), (2, aI v2), (3, aI v3), (4, aI v4), (7, aJ v7), (9, aJ v9)] []) (v1 : Int32) (v2 : Int32) (v3 : Int32) (v4 : Int32) (v7 : Int64) (v9 : Int64) (S : Mem) (hf : f_X12_leastWithin_90 k40 v1 v2 v3 v4 v7 v9 S = some q) : ZZ X Γ 13 (QQ X Γ (some (aJ q.1)) q.2) S 90 [(0, aR 20), (1, aI v1), (2, aI v2), (3, aI v3), (4, aI v4), (7, aJ v7), (9, aJ v9)] [] := by
  unfold f_X12_leastWithin_90 at hf
  refine z_goto (tgt := 40) C d_X12_leastWithin_90 (by decide) ?_
  exact z_sub [0, 1, 2, 3, 4, 5, 6] rfl (hk40 _ _ _ _ _ _ _ hf)
def f_X12_leastWithin_59 (k40 : Int32 → Int32 → Int32 → Int32 → Int64 → Int64 → Mem → Option (Int64 × Mem)) (v1 : Int32) (v2 : Int32) (v3 : Int32) (v4 : Int32) (v7 : Int64) (v9 : Int64) (v11 : Int64) (S : Mem) : Option (Int64 × Mem) := ((f_X12_zoneWithin v1 v2 v3 v11 S).bind fun q66 => ((f_X12_isThere v2 q66.1 v4 q66.2).bind fun q71 => (if q71.1 = 0 then (f_X12_leastWithin_90 k40 v1 v2 v3 v4 (v11 + 1) v9 q71.2) else (f_X12_leastWithin_90 k40 v1 v2 v3 v4 v7 v11 q71.2))))
set_option maxRecDepth 20000 in
theorem t_X12_leastWithin_59 {X : MC} {Γ : GG} (C : CX X Γ cX12_leastWithin 13 "TickPoolsModel" 5 123) (hr : X.2.2.2.2.2.2.2.2.1.sig.returnType = some .long) {k40 : Int32 → Int32 → Int32 → Int32 → Int64 → Int64 → Mem → Option (Int64 × Mem)} {q : Int64 × Mem} (hk40 : ∀ (v1 : Int32) (v2 : Int32) (v3 : Int32) (v4 : Int32) (v7 : Int64) (v9 : Int64) (S : Mem), k40 v1 v2 v3 v4 v7 v9 S = some q → ZZ X Γ 13 (QQ X Γ (some (aJ q.1)) q.2) S 40 [(0, aR 20), (1, aI v1), (2, aI v2), (3, aI v3), (4, aI v4), (7, aJ v7), (9, aJ v9)] []) (v1 : Int32) (v2 : Int32) (v3 : Int32) (v4 : Int32) (v7 : Int64) (v9 : Int64) (v11 : Int64) (S : Mem) (hf : f_X12_leastWithin_59 k40 v1 v2 v3 v4 v7 v9 v11 S = some q) : ZZ X Γ 13 (QQ X Γ (some (aJ q.1)) q.2) S 59 [(0, aR 20), (1, aI v1), (2, aI v2), (3, aI v3), (4, aI v4), (7, aJ v7), (9, aJ v9), (11, aJ v11)] [] := by
  unfold f_X12_leastWithin_59 at hf
  refine z_iload_n (j := 2) C d_X12_leastWithin_59 rfl ?_
  refine z_aload_n (j := 0) C d_X12_leastWithin_60 rfl ?_
  refine z_iload_n (j := 1) C d_X12_leastWithin_61 rfl ?_
  refine z_iload_n (j := 2) C d_X12_leastWithin_62 rfl ?_
  refine z_iload_n (j := 3) C d_X12_leastWithin_63 rfl ?_
  refine z_lload (j := 7) C d_X12_leastWithin_64 rfl ?_
  obtain ⟨q66, hF, hf⟩ := bd hf
  refine z_callV1 (rest := [aI v2]) C [aI v1, aI v2, aI v3, aJ v11] rfl (by decide) rfl rfl k_X12_zoneWithin tw_1820 ⟨by decide, by decide⟩ (Nat.le_of_ble_eq_true rfl) d_X12_leastWithin_66 (c_X12_zoneWithin C.inj hF) rfl ?_
  refine z_iload (j := 4) C d_X12_leastWithin_69 rfl ?_
  obtain ⟨q71, hF, hf⟩ := bd hf
  refine z_callS1 (rest := []) C [aI v2, aI q66.1, aI v4] k_X12_isThere tw_1824 ⟨by decide, by decide⟩ (Nat.le_of_ble_eq_true rfl) d_X12_leastWithin_71 (c_X12_isThere C.inj hF) rfl ?_
  refine z_if_eq (tgt := 84) C d_X12_leastWithin_74 (by decide) hf (fun c74 hf => ?_) (fun c74 hf => ?_)
  · refine z_lload (j := 7) C d_X12_leastWithin_84 rfl ?_
    refine z_lconst (v := 1) C d_X12_leastWithin_86 (by decide) ?_
    refine z_ladd C d_X12_leastWithin_87 ?_
    refine z_lstore (lv' := [(7, aJ (v11 + 1)), (0, aR 20), (1, aI v1), (2, aI v2), (3, aI v3), (4, aI v4), (9, aJ v9), (11, aJ v11)]) C d_X12_leastWithin_88 (by decide) rfl ?_
    exact z_sub [1, 2, 3, 4, 5, 0, 6] rfl (t_X12_leastWithin_90 C hr hk40 _ _ _ _ _ _ _ hf)
  · refine z_lload (j := 7) C d_X12_leastWithin_77 rfl ?_
    refine z_lstore (lv' := [(9, aJ v11), (0, aR 20), (1, aI v1), (2, aI v2), (3, aI v3), (4, aI v4), (7, aJ v7), (11, aJ v11)]) C d_X12_leastWithin_79 (by decide) rfl ?_
    refine z_goto (tgt := 90) C d_X12_leastWithin_81 (by decide) ?_
    exact z_sub [1, 2, 3, 4, 5, 6, 0] rfl (t_X12_leastWithin_90 C hr hk40 _ _ _ _ _ _ _ hf)
def f_X12_leastWithin_40B (k40 : Int32 → Int32 → Int32 → Int32 → Int64 → Int64 → Mem → Option (Int64 × Mem)) (v1 : Int32) (v2 : Int32) (v3 : Int32) (v4 : Int32) (v7 : Int64) (v9 : Int64) (S : Mem) : Option (Int64 × Mem) := (if v9 ≤ v7 then (some (v7, S)) else (f_X12_leastWithin_59 k40 v1 v2 v3 v4 v7 v9 ((v7 + v9) / 2) S))
set_option maxRecDepth 20000 in
theorem t_X12_leastWithin_40B {X : MC} {Γ : GG} (C : CX X Γ cX12_leastWithin 13 "TickPoolsModel" 5 123) (hr : X.2.2.2.2.2.2.2.2.1.sig.returnType = some .long) {k40 : Int32 → Int32 → Int32 → Int32 → Int64 → Int64 → Mem → Option (Int64 × Mem)} {q : Int64 × Mem} (hk40 : ∀ (v1 : Int32) (v2 : Int32) (v3 : Int32) (v4 : Int32) (v7 : Int64) (v9 : Int64) (S : Mem), k40 v1 v2 v3 v4 v7 v9 S = some q → ZZ X Γ 13 (QQ X Γ (some (aJ q.1)) q.2) S 40 [(0, aR 20), (1, aI v1), (2, aI v2), (3, aI v3), (4, aI v4), (7, aJ v7), (9, aJ v9)] []) (v1 : Int32) (v2 : Int32) (v3 : Int32) (v4 : Int32) (v7 : Int64) (v9 : Int64) (S : Mem) (hf : f_X12_leastWithin_40B k40 v1 v2 v3 v4 v7 v9 S = some q) : ZZ X Γ 13 (QQ X Γ (some (aJ q.1)) q.2) S 40 [(0, aR 20), (1, aI v1), (2, aI v2), (3, aI v3), (4, aI v4), (7, aJ v7), (9, aJ v9)] [] := by
  unfold f_X12_leastWithin_40B at hf
  refine z_lload (j := 5) C d_X12_leastWithin_40 rfl ?_
  refine z_lload (j := 6) C d_X12_leastWithin_42 rfl ?_
  refine z_lge (tgt := 93) C d_X12_leastWithin_44 d_X12_leastWithin_45 (by decide) hf (fun c44 hf => ?_) (fun c44 hf => ?_)
  · refine z_lload (j := 5) C d_X12_leastWithin_93 rfl ?_
    exact r_l C hr d_X12_leastWithin_95 hf
  · refine z_lload (j := 5) C d_X12_leastWithin_48 rfl ?_
    refine z_lload (j := 6) C d_X12_leastWithin_50 rfl ?_
    refine z_ladd C d_X12_leastWithin_52 ?_
    refine z_ldc2 (v := 2) C tw_1480 d_X12_leastWithin_53 ?_
    refine z_ldiv C d_X12_leastWithin_56 (by decide) ?_
    refine z_lstore (lv' := [(11, aJ ((v7 + v9) / 2)), (0, aR 20), (1, aI v1), (2, aI v2), (3, aI v3), (4, aI v4), (7, aJ v7), (9, aJ v9)]) C d_X12_leastWithin_57 (by decide) rfl ?_
    exact z_sub [1, 2, 3, 4, 5, 6, 7, 0] rfl (t_X12_leastWithin_59 C hr hk40 _ _ _ _ _ _ _ _ hf)
def f_X12_leastWithin_40 : Nat → Int32 → Int32 → Int32 → Int32 → Int64 → Int64 → Mem → Option (Int64 × Mem)
  | 0 => fun _ _ _ _ _ _ _ => none
  | n + 1 => f_X12_leastWithin_40B (f_X12_leastWithin_40 n)
theorem t_X12_leastWithin_40 {X : MC} {Γ : GG} (C : CX X Γ cX12_leastWithin 13 "TickPoolsModel" 5 123) (hr : X.2.2.2.2.2.2.2.2.1.sig.returnType = some .long) {q : Int64 × Mem} : ∀ (n : Nat) (v1 : Int32) (v2 : Int32) (v3 : Int32) (v4 : Int32) (v7 : Int64) (v9 : Int64) (S : Mem) (hf : f_X12_leastWithin_40 n v1 v2 v3 v4 v7 v9 S = some q), ZZ X Γ 13 (QQ X Γ (some (aJ q.1)) q.2) S 40 [(0, aR 20), (1, aI v1), (2, aI v2), (3, aI v3), (4, aI v4), (7, aJ v7), (9, aJ v9)] []
  | 0, _, _, _, _, _, _, _, hf => nomatch (show (none : Option (Int64 × Mem)) = some q from hf)
  | n + 1, v1, v2, v3, v4, v7, v9, S, hf => t_X12_leastWithin_40B C hr (t_X12_leastWithin_40 C hr n) v1 v2 v3 v4 v7 v9 S hf
/-- TickPoolsModel.leastWithin(IIIIJ)J -/
def f_X12_leastWithin (p1 : Int32) (p2 : Int32) (p3 : Int32) (p4 : Int32) (p5 : Int64) (S : Mem) : Option (Int64 × Mem) := (if p5 ≤ 1 then (f_X12_leastWithin_27  S) else ((f_X12_zoneWithin p1 p2 p3 (p5 - 1) S).bind fun q16 => ((f_X12_isThere p2 q16.1 p4 q16.2).bind fun q21 => (if q21.1 = 0 then (f_X12_leastWithin_27  q21.2) else (f_X12_leastWithin_40  100000 p1 p2 p3 p4 1 (p5 - 1) q21.2)))))
set_option maxRecDepth 20000 in
theorem c_X12_leastWithin {l : Launch} {Γ : GG} (hI : Inj Γ) {p1 : Int32} {p2 : Int32} {p3 : Int32} {p4 : Int32} {p5 : Int64} {S : Mem} {q : Int64 × Mem} (hf : f_X12_leastWithin p1 p2 p3 p4 p5 S = some q) : MM l Γ yX12_leastWithin cX12_leastWithin 13 (some .long) 5 123 [aR 20, aI p1, aI p2, aI p3, aI p4, aJ p5] S (some (aJ q.1)) q.2 := by
  refine met_of hI "TickPoolsModel" rfl (by decide +kernel) (Nat.le_of_ble_eq_true rfl) (fun X hX C hr => ?_)
  unfold f_X12_leastWithin at hf
  show ZZ X Γ 13 _ S 0 [(0, aR 20), (1, aI p1), (2, aI p2), (3, aI p3), (4, aI p4), (5, aJ p5)] []
  refine z_lload (j := 5) C d_X12_leastWithin_0 rfl ?_
  refine z_lconst (v := 1) C d_X12_leastWithin_2 (by decide) ?_
  refine z_lle (tgt := 27) C d_X12_leastWithin_3 d_X12_leastWithin_4 (by decide) hf (fun c3 hf => ?_) (fun c3 hf => ?_)
  · exact z_sub [] rfl (t_X12_leastWithin_27 C hr  _ hf)
  · refine z_iload_n (j := 2) C d_X12_leastWithin_7 rfl ?_
    refine z_aload_n (j := 0) C d_X12_leastWithin_8 rfl ?_
    refine z_iload_n (j := 1) C d_X12_leastWithin_9 rfl ?_
    refine z_iload_n (j := 2) C d_X12_leastWithin_10 rfl ?_
    refine z_iload_n (j := 3) C d_X12_leastWithin_11 rfl ?_
    refine z_lload (j := 5) C d_X12_leastWithin_12 rfl ?_
    refine z_lconst (v := 1) C d_X12_leastWithin_14 (by decide) ?_
    refine z_lsub C d_X12_leastWithin_15 ?_
    obtain ⟨q16, hF, hf⟩ := bd hf
    refine z_callV1 (rest := [aI p2]) C [aI p1, aI p2, aI p3, aJ (p5 - 1)] rfl (by decide) rfl rfl k_X12_zoneWithin tw_1820 ⟨by decide, by decide⟩ (Nat.le_of_ble_eq_true rfl) d_X12_leastWithin_16 (c_X12_zoneWithin C.inj hF) rfl ?_
    refine z_iload (j := 4) C d_X12_leastWithin_19 rfl ?_
    obtain ⟨q21, hF, hf⟩ := bd hf
    refine z_callS1 (rest := []) C [aI p2, aI q16.1, aI p4] k_X12_isThere tw_1824 ⟨by decide, by decide⟩ (Nat.le_of_ble_eq_true rfl) d_X12_leastWithin_21 (c_X12_isThere C.inj hF) rfl ?_
    refine z_if_ne (tgt := 31) C d_X12_leastWithin_24 (by decide) hf (fun c24 hf => ?_) (fun c24 hf => ?_)
    · refine z_lconst (v := 1) C d_X12_leastWithin_31 (by decide) ?_
      refine z_lstore (lv' := [(7, aJ 1), (0, aR 20), (1, aI p1), (2, aI p2), (3, aI p3), (4, aI p4), (5, aJ p5)]) C d_X12_leastWithin_32 (by decide) rfl ?_
      refine z_lload (j := 6) C d_X12_leastWithin_34 rfl ?_
      refine z_lconst (v := 1) C d_X12_leastWithin_36 (by decide) ?_
      refine z_lsub C d_X12_leastWithin_37 ?_
      refine z_lstore (lv' := [(9, aJ (p5 - 1)), (7, aJ 1), (0, aR 20), (1, aI p1), (2, aI p2), (3, aI p3), (4, aI p4), (5, aJ p5)]) C d_X12_leastWithin_38 (by decide) rfl ?_
      exact z_sub [2, 3, 4, 5, 6, 1, 0] rfl (t_X12_leastWithin_40 C hr  100000 _ _ _ _ _ _ _ hf)
    · exact z_sub [] rfl (t_X12_leastWithin_27 C hr  _ hf)
theorem d_X12_leastTo_0 : decode cX12_leastTo 0 = .ok (.iload_n 2, 1) := by decide +kernel
theorem d_X12_leastTo_1 : decode cX12_leastTo 1 = .ok (.invokestatic 404, 3) := by decide +kernel
theorem d_X12_leastTo_4 : decode cX12_leastTo 4 = .ok (.istore 4, 2) := by decide +kernel
theorem d_X12_leastTo_6 : decode cX12_leastTo 6 = .ok (.lconst 0, 1) := by decide +kernel
theorem d_X12_leastTo_7 : decode cX12_leastTo 7 = .ok (.lstore 5, 2) := by decide +kernel
theorem d_X12_leastTo_9 : decode cX12_leastTo 9 = .ok (.iconst 0, 1) := by decide +kernel
theorem d_X12_leastTo_10 : decode cX12_leastTo 10 = .ok (.istore 7, 2) := by decide +kernel
theorem d_X12_leastTo_12 : decode cX12_leastTo 12 = .ok (.iload 7, 2) := by decide +kernel
theorem d_X12_leastTo_14 : decode cX12_leastTo 14 = .ok (.ifCond .ne 150, 3) := by decide +kernel
theorem d_X12_leastTo_17 : decode cX12_leastTo 17 = .ok (.lload 5, 2) := by decide +kernel
theorem d_X12_leastTo_19 : decode cX12_leastTo 19 = .ok (.ldc2_w 386, 3) := by decide +kernel
theorem d_X12_leastTo_22 : decode cX12_leastTo 22 = .ok (.lcmp, 1) := by decide +kernel
theorem d_X12_leastTo_23 : decode cX12_leastTo 23 = .ok (.ifCond .ge 141, 3) := by decide +kernel
theorem d_X12_leastTo_26 : decode cX12_leastTo 26 = .ok (.aload_n 0, 1) := by decide +kernel
theorem d_X12_leastTo_27 : decode cX12_leastTo 27 = .ok (.iload_n 1, 1) := by decide +kernel
theorem d_X12_leastTo_28 : decode cX12_leastTo 28 = .ok (.iload_n 2, 1) := by decide +kernel
theorem d_X12_leastTo_29 : decode cX12_leastTo 29 = .ok (.iload 4, 2) := by decide +kernel
theorem d_X12_leastTo_31 : decode cX12_leastTo 31 = .ok (.invokevirtual 322, 3) := by decide +kernel
theorem d_X12_leastTo_34 : decode cX12_leastTo 34 = .ok (.istore 8, 2) := by decide +kernel
theorem d_X12_leastTo_36 : decode cX12_leastTo 36 = .ok (.aload_n 0, 1) := by decide +kernel
theorem d_X12_leastTo_37 : decode cX12_leastTo 37 = .ok (.iload_n 1, 1) := by decide +kernel
theorem d_X12_leastTo_38 : decode cX12_leastTo 38 = .ok (.iload_n 2, 1) := by decide +kernel
theorem d_X12_leastTo_39 : decode cX12_leastTo 39 = .ok (.iload 8, 2) := by decide +kernel
theorem d_X12_leastTo_41 : decode cX12_leastTo 41 = .ok (.invokevirtual 331, 3) := by decide +kernel
theorem d_X12_leastTo_44 : decode cX12_leastTo 44 = .ok (.lstore 9, 2) := by decide +kernel
theorem d_X12_leastTo_46 : decode cX12_leastTo 46 = .ok (.lload 9, 2) := by decide +kernel
theorem d_X12_leastTo_48 : decode cX12_leastTo 48 = .ok (.aload_n 0, 1) := by decide +kernel
theorem d_X12_leastTo_49 : decode cX12_leastTo 49 = .ok (.iload_n 1, 1) := by decide +kernel
theorem d_X12_leastTo_50 : decode cX12_leastTo 50 = .ok (.lload 9, 2) := by decide +kernel
theorem d_X12_leastTo_52 : decode cX12_leastTo 52 = .ok (.invokevirtual 342, 3) := by decide +kernel
theorem d_X12_leastTo_55 : decode cX12_leastTo 55 = .ok (.ladd, 1) := by decide +kernel
theorem d_X12_leastTo_56 : decode cX12_leastTo 56 = .ok (.lstore 11, 2) := by decide +kernel
theorem d_X12_leastTo_58 : decode cX12_leastTo 58 = .ok (.aload_n 0, 1) := by decide +kernel
theorem d_X12_leastTo_59 : decode cX12_leastTo 59 = .ok (.iload_n 1, 1) := by decide +kernel
theorem d_X12_leastTo_60 : decode cX12_leastTo 60 = .ok (.iload_n 2, 1) := by decide +kernel
theorem d_X12_leastTo_61 : decode cX12_leastTo 61 = .ok (.iload 8, 2) := by decide +kernel
theorem d_X12_leastTo_63 : decode cX12_leastTo 63 = .ok (.iload_n 3, 1) := by decide +kernel
theorem d_X12_leastTo_64 : decode cX12_leastTo 64 = .ok (.lload 11, 2) := by decide +kernel
theorem d_X12_leastTo_66 : decode cX12_leastTo 66 = .ok (.invokevirtual 521, 3) := by decide +kernel
theorem d_X12_leastTo_69 : decode cX12_leastTo 69 = .ok (.lstore 13, 2) := by decide +kernel
theorem d_X12_leastTo_71 : decode cX12_leastTo 71 = .ok (.lload 13, 2) := by decide +kernel
theorem d_X12_leastTo_73 : decode cX12_leastTo 73 = .ok (.lconst 0, 1) := by decide +kernel
theorem d_X12_leastTo_74 : decode cX12_leastTo 74 = .ok (.lcmp, 1) := by decide +kernel
theorem d_X12_leastTo_75 : decode cX12_leastTo 75 = .ok (.ifCond .le 9, 3) := by decide +kernel
theorem d_X12_leastTo_78 : decode cX12_leastTo 78 = .ok (.lload 5, 2) := by decide +kernel
theorem d_X12_leastTo_80 : decode cX12_leastTo 80 = .ok (.lload 13, 2) := by decide +kernel
theorem d_X12_leastTo_82 : decode cX12_leastTo 82 = .ok (.ladd, 1) := by decide +kernel
theorem d_X12_leastTo_83 : decode cX12_leastTo 83 = .ok (.lreturn, 1) := by decide +kernel
theorem d_X12_leastTo_84 : decode cX12_leastTo 84 = .ok (.aload_n 0, 1) := by decide +kernel
theorem d_X12_leastTo_85 : decode cX12_leastTo 85 = .ok (.lload 11, 2) := by decide +kernel
theorem d_X12_leastTo_87 : decode cX12_leastTo 87 = .ok (.lconst 0, 1) := by decide +kernel
theorem d_X12_leastTo_88 : decode cX12_leastTo 88 = .ok (.lcmp, 1) := by decide +kernel
theorem d_X12_leastTo_89 : decode cX12_leastTo 89 = .ok (.ifCond .le 8, 3) := by decide +kernel
theorem d_X12_leastTo_92 : decode cX12_leastTo 92 = .ok (.lload 11, 2) := by decide +kernel
theorem d_X12_leastTo_94 : decode cX12_leastTo 94 = .ok (.goto 4, 3) := by decide +kernel
theorem d_X12_leastTo_97 : decode cX12_leastTo 97 = .ok (.lconst 1, 1) := by decide +kernel
theorem d_X12_leastTo_98 : decode cX12_leastTo 98 = .ok (.putfield 326, 3) := by decide +kernel
theorem d_X12_leastTo_101 : decode cX12_leastTo 101 = .ok (.aload_n 0, 1) := by decide +kernel
theorem d_X12_leastTo_102 : decode cX12_leastTo 102 = .ok (.iload_n 1, 1) := by decide +kernel
theorem d_X12_leastTo_103 : decode cX12_leastTo 103 = .ok (.iload_n 2, 1) := by decide +kernel
theorem d_X12_leastTo_104 : decode cX12_leastTo 104 = .ok (.iload 4, 2) := by decide +kernel
theorem d_X12_leastTo_106 : decode cX12_leastTo 106 = .ok (.iconst 0, 1) := by decide +kernel
theorem d_X12_leastTo_107 : decode cX12_leastTo 107 = .ok (.invokevirtual 369, 3) := by decide +kernel
theorem d_X12_leastTo_110 : decode cX12_leastTo 110 = .ok (.istore 7, 2) := by decide +kernel
theorem d_X12_leastTo_112 : decode cX12_leastTo 112 = .ok (.lload 11, 2) := by decide +kernel
theorem d_X12_leastTo_114 : decode cX12_leastTo 114 = .ok (.lconst 0, 1) := by decide +kernel
theorem d_X12_leastTo_115 : decode cX12_leastTo 115 = .ok (.lcmp, 1) := by decide +kernel
theorem d_X12_leastTo_116 : decode cX12_leastTo 116 = .ok (.ifCond .gt 8, 3) := by decide +kernel
theorem d_X12_leastTo_119 : decode cX12_leastTo 119 = .ok (.iload 7, 2) := by decide +kernel
theorem d_X12_leastTo_121 : decode cX12_leastTo 121 = .ok (.ifCond .eq 33, 3) := by decide +kernel
theorem d_X12_leastTo_124 : decode cX12_leastTo 124 = .ok (.iload_n 2, 1) := by decide +kernel
theorem d_X12_leastTo_125 : decode cX12_leastTo 125 = .ok (.aload_n 0, 1) := by decide +kernel
theorem d_X12_leastTo_126 : decode cX12_leastTo 126 = .ok (.iload_n 1, 1) := by decide +kernel
theorem d_X12_leastTo_127 : decode cX12_leastTo 127 = .ok (.invokevirtual 228, 3) := by decide +kernel
theorem d_X12_leastTo_130 : decode cX12_leastTo 130 = .ok (.iload_n 3, 1) := by decide +kernel
theorem d_X12_leastTo_131 : decode cX12_leastTo 131 = .ok (.invokestatic 518, 3) := by decide +kernel
theorem d_X12_leastTo_134 : decode cX12_leastTo 134 = .ok (.ifCond .eq 20, 3) := by decide +kernel
theorem d_X12_leastTo_137 : decode cX12_leastTo 137 = .ok (.lload 5, 2) := by decide +kernel
theorem d_X12_leastTo_139 : decode cX12_leastTo 139 = .ok (.lload 11, 2) := by decide +kernel
theorem d_X12_leastTo_141 : decode cX12_leastTo 141 = .ok (.lconst 0, 1) := by decide +kernel
theorem d_X12_leastTo_142 : decode cX12_leastTo 142 = .ok (.lcmp, 1) := by decide +kernel
theorem d_X12_leastTo_143 : decode cX12_leastTo 143 = .ok (.ifCond .le 8, 3) := by decide +kernel
theorem d_X12_leastTo_146 : decode cX12_leastTo 146 = .ok (.lload 11, 2) := by decide +kernel
theorem d_X12_leastTo_148 : decode cX12_leastTo 148 = .ok (.goto 4, 3) := by decide +kernel
theorem d_X12_leastTo_151 : decode cX12_leastTo 151 = .ok (.lconst 1, 1) := by decide +kernel
theorem d_X12_leastTo_152 : decode cX12_leastTo 152 = .ok (.ladd, 1) := by decide +kernel
theorem d_X12_leastTo_153 : decode cX12_leastTo 153 = .ok (.lreturn, 1) := by decide +kernel
theorem d_X12_leastTo_154 : decode cX12_leastTo 154 = .ok (.lload 5, 2) := by decide +kernel
theorem d_X12_leastTo_156 : decode cX12_leastTo 156 = .ok (.lload 11, 2) := by decide +kernel
theorem d_X12_leastTo_158 : decode cX12_leastTo 158 = .ok (.ladd, 1) := by decide +kernel
theorem d_X12_leastTo_159 : decode cX12_leastTo 159 = .ok (.lstore 5, 2) := by decide +kernel
theorem d_X12_leastTo_161 : decode cX12_leastTo 161 = .ok (.goto (-149), 3) := by decide +kernel
theorem d_X12_leastTo_164 : decode cX12_leastTo 164 = .ok (.ldc2_w 525, 3) := by decide +kernel
theorem d_X12_leastTo_167 : decode cX12_leastTo 167 = .ok (.lreturn, 1) := by decide +kernel
def f_X12_leastTo_152 (s0 : Int64) (s1 : Int64) (S : Mem) : Option (Int64 × Mem) := (some ((s1 + s0), S))
set_option maxRecDepth 20000 in
theorem t_X12_leastTo_152 {X : MC} {Γ : GG} (C : CX X Γ cX12_leastTo 15 "TickPoolsModel" 6 179) (hr : X.2.2.2.2.2.2.2.2.1.sig.returnType = some .long) {q : Int64 × Mem} (s0 : Int64) (s1 : Int64) (S : Mem) (hf : f_X12_leastTo_152 s0 s1 S = some q) : ZZ X Γ 15 (QQ X Γ (some (aJ q.1)) q.2) S 152 [] [aJ s0, aJ s1] := by
  unfold f_X12_leastTo_152 at hf
  refine z_ladd C d_X12_leastTo_152 ?_
  exact r_l C hr d_X12_leastTo_153 hf
def f_X12_leastTo_154 (k12 : Int32 → Int32 → Int32 → Int32 → Int64 → Int32 → Mem → Option (Int64 × Mem)) (v1 : Int32) (v2 : Int32) (v3 : Int32) (v4 : Int32) (v5 : Int64) (v7 : Int32) (v11 : Int64) (S : Mem) : Option (Int64 × Mem) := (k12 v1 v2 v3 v4 (v5 + v11) v7 S)
set_option maxRecDepth 20000 in
theorem t_X12_leastTo_154 {X : MC} {Γ : GG} (C : CX X Γ cX12_leastTo 15 "TickPoolsModel" 6 179) (hr : X.2.2.2.2.2.2.2.2.1.sig.returnType = some .long) {k12 : Int32 → Int32 → Int32 → Int32 → Int64 → Int32 → Mem → Option (Int64 × Mem)} {q : Int64 × Mem} (hk12 : ∀ (v1 : Int32) (v2 : Int32) (v3 : Int32) (v4 : Int32) (v5 : Int64) (v7 : Int32) (S : Mem), k12 v1 v2 v3 v4 v5 v7 S = some q → ZZ X Γ 15 (QQ X Γ (some (aJ q.1)) q.2) S 12 [(0, aR 20), (1, aI v1), (2, aI v2), (3, aI v3), (4, aI v4), (5, aJ v5), (7, aI v7)] []) (v1 : Int32) (v2 : Int32) (v3 : Int32) (v4 : Int32) (v5 : Int64) (v7 : Int32) (v11 : Int64) (S : Mem) (hf : f_X12_leastTo_154 k12 v1 v2 v3 v4 v5 v7 v11 S = some q) : ZZ X Γ 15 (QQ X Γ (some (aJ q.1)) q.2) S 154 [(0, aR 20), (1, aI v1), (2, aI v2), (3, aI v3), (4, aI v4), (5, aJ v5), (7, aI v7), (11, aJ v11)] [] := by
  unfold f_X12_leastTo_154 at hf
  refine z_lload (j := 5) C d_X12_leastTo_154 rfl ?_
  refine z_lload (j := 7) C d_X12_leastTo_156 rfl ?_
  refine z_ladd C d_X12_leastTo_158 ?_
  refine z_lstore (lv' := [(5, aJ (v5 + v11)), (0, aR 20), (1, aI v1), (2, aI v2), (3, aI v3), (4, aI v4), (7, aI v7), (11, aJ v11)]) C d_X12_leastTo_159 (by decide) rfl ?_
  refine z_goto (tgt := 12) C d_X12_leastTo_161 (by decide) ?_
  exact z_sub [1, 2, 3, 4, 5, 0, 6] rfl (hk12 _ _ _ _ _ _ _ hf)
def f_X12_leastTo_124 (k12 : Int32 → Int32 → Int32 → Int32 → Int64 → Int32 → Mem → Option (Int64 × Mem)) (v1 : Int32) (v2 : Int32) (v3 : Int32) (v4 : Int32) (v5 : Int64) (v7 : Int32) (v11 : Int64) (S : Mem) : Option (Int64 × Mem) := ((f_X12_zoneNow v1 S).bind fun q127 => ((f_X12_isThere v2 q127.1 v3 q127.2).bind fun q131 => (if q131.1 = 0 then (f_X12_leastTo_154 k12 v1 v2 v3 v4 v5 v7 v11 q131.2) else (if v11 ≤ 0 then (f_X12_leastTo_152  1 v5 q131.2) else (f_X12_leastTo_152  v11 v5 q131.2)))))
set_option maxRecDepth 20000 in
theorem t_X12_leastTo_124 {X : MC} {Γ : GG} (C : CX X Γ cX12_leastTo 15 "TickPoolsModel" 6 179) (hr : X.2.2.2.2.2.2.2.2.1.sig.returnType = some .long) {k12 : Int32 → Int32 → Int32 → Int32 → Int64 → Int32 → Mem → Option (Int64 × Mem)} {q : Int64 × Mem} (hk12 : ∀ (v1 : Int32) (v2 : Int32) (v3 : Int32) (v4 : Int32) (v5 : Int64) (v7 : Int32) (S : Mem), k12 v1 v2 v3 v4 v5 v7 S = some q → ZZ X Γ 15 (QQ X Γ (some (aJ q.1)) q.2) S 12 [(0, aR 20), (1, aI v1), (2, aI v2), (3, aI v3), (4, aI v4), (5, aJ v5), (7, aI v7)] []) (v1 : Int32) (v2 : Int32) (v3 : Int32) (v4 : Int32) (v5 : Int64) (v7 : Int32) (v11 : Int64) (S : Mem) (hf : f_X12_leastTo_124 k12 v1 v2 v3 v4 v5 v7 v11 S = some q) : ZZ X Γ 15 (QQ X Γ (some (aJ q.1)) q.2) S 124 [(0, aR 20), (1, aI v1), (2, aI v2), (3, aI v3), (4, aI v4), (5, aJ v5), (7, aI v7), (11, aJ v11)] [] := by
  unfold f_X12_leastTo_124 at hf
  refine z_iload_n (j := 2) C d_X12_leastTo_124 rfl ?_
  refine z_aload_n (j := 0) C d_X12_leastTo_125 rfl ?_
  refine z_iload_n (j := 1) C d_X12_leastTo_126 rfl ?_
  obtain ⟨q127, hF, hf⟩ := bd hf
  refine z_callV1 (rest := [aI v2]) C [aI v1] rfl (by decide) rfl rfl k_X12_zoneNow tw_1499 ⟨by decide, by decide⟩ (Nat.le_of_ble_eq_true rfl) d_X12_leastTo_127 (c_X12_zoneNow C.inj hF) rfl ?_
  refine z_iload_n (j := 3) C d_X12_leastTo_130 rfl ?_
  obtain ⟨q131, hF, hf⟩ := bd hf
  refine z_callS1 (rest := []) C [aI v2, aI q127.1, aI v3] k_X12_isThere tw_1824 ⟨by decide, by decide⟩ (Nat.le_of_ble_eq_true rfl) d_X12_leastTo_131 (c_X12_isThere C.inj hF) rfl ?_
  refine z_if_eq (tgt := 154) C d_X12_leastTo_134 (by decide) hf (fun c134 hf => ?_) (fun c134 hf => ?_)
  · exact z_sub [0, 1, 2, 3, 4, 5, 6, 7] rfl (t_X12_leastTo_154 C hr hk12 _ _ _ _ _ _ _ _ hf)
  · refine z_lload (j := 5) C d_X12_leastTo_137 rfl ?_
    refine z_lload (j := 7) C d_X12_leastTo_139 rfl ?_
    refine z_lconst (v := 0) C d_X12_leastTo_141 (by decide) ?_
    refine z_lle (tgt := 151) C d_X12_leastTo_142 d_X12_leastTo_143 (by decide) hf (fun c142 hf => ?_) (fun c142 hf => ?_)
    · refine z_lconst (v := 1) C d_X12_leastTo_151 (by decide) ?_
      exact z_sub [] rfl (t_X12_leastTo_152 C hr  _ _ _ hf)
    · refine z_lload (j := 7) C d_X12_leastTo_146 rfl ?_
      refine z_goto (tgt := 152) C d_X12_leastTo_148 (by decide) ?_
      exact z_sub [] rfl (t_X12_leastTo_152 C hr  _ _ _ hf)
def f_X12_leastTo_98 (k12 : Int32 → Int32 → Int32 → Int32 → Int64 → Int32 → Mem → Option (Int64 × Mem)) (v1 : Int32) (v2 : Int32) (v3 : Int32) (v4 : Int32) (v5 : Int64) (v11 : Int64) (s0 : Int64) (S : Mem) : Option (Int64 × Mem) := ((f_X12_steps v1 v2 v4 0 (sL S 20 29 s0)).bind fun q107 => (if 0 < v11 then (f_X12_leastTo_124 k12 v1 v2 v3 v4 v5 q107.1 v11 q107.2) else (if q107.1 = 0 then (f_X12_leastTo_154 k12 v1 v2 v3 v4 v5 q107.1 v11 q107.2) else (f_X12_leastTo_124 k12 v1 v2 v3 v4 v5 q107.1 v11 q107.2))))
set_option maxRecDepth 20000 in
theorem t_X12_leastTo_98 {X : MC} {Γ : GG} (C : CX X Γ cX12_leastTo 15 "TickPoolsModel" 6 179) (hr : X.2.2.2.2.2.2.2.2.1.sig.returnType = some .long) {k12 : Int32 → Int32 → Int32 → Int32 → Int64 → Int32 → Mem → Option (Int64 × Mem)} {q : Int64 × Mem} (hk12 : ∀ (v1 : Int32) (v2 : Int32) (v3 : Int32) (v4 : Int32) (v5 : Int64) (v7 : Int32) (S : Mem), k12 v1 v2 v3 v4 v5 v7 S = some q → ZZ X Γ 15 (QQ X Γ (some (aJ q.1)) q.2) S 12 [(0, aR 20), (1, aI v1), (2, aI v2), (3, aI v3), (4, aI v4), (5, aJ v5), (7, aI v7)] []) (v1 : Int32) (v2 : Int32) (v3 : Int32) (v4 : Int32) (v5 : Int64) (v11 : Int64) (s0 : Int64) (S : Mem) (hf : f_X12_leastTo_98 k12 v1 v2 v3 v4 v5 v11 s0 S = some q) : ZZ X Γ 15 (QQ X Γ (some (aJ q.1)) q.2) S 98 [(0, aR 20), (1, aI v1), (2, aI v2), (3, aI v3), (4, aI v4), (5, aJ v5), (11, aJ v11)] [aJ s0, aR 20] := by
  unfold f_X12_leastTo_98 at hf
  refine zp_X12_left C rfl tw_1240 d_X12_leastTo_98 ?_
  refine z_aload_n (j := 0) C d_X12_leastTo_101 rfl ?_
  refine z_iload_n (j := 1) C d_X12_leastTo_102 rfl ?_
  refine z_iload_n (j := 2) C d_X12_leastTo_103 rfl ?_
  refine z_iload (j := 4) C d_X12_leastTo_104 rfl ?_
  refine z_iconst (v := 0) C d_X12_leastTo_106 (by decide) ?_
  obtain ⟨q107, hF, hf⟩ := bd hf
  refine z_callV1 (rest := []) C [aI v1, aI v2, aI v4, aI 0] rfl (by decide) rfl rfl k_X12_steps tw_1612 ⟨by decide, by decide⟩ (Nat.le_of_ble_eq_true rfl) d_X12_leastTo_107 (c_X12_steps C.inj hF) rfl ?_
  refine z_istore (lv' := [(7, aI q107.1), (0, aR 20), (1, aI v1), (2, aI v2), (3, aI v3), (4, aI v4), (5, aJ v5), (11, aJ v11)]) C d_X12_leastTo_110 (by decide) rfl ?_
  refine z_lload (j := 7) C d_X12_leastTo_112 rfl ?_
  refine z_lconst (v := 0) C d_X12_leastTo_114 (by decide) ?_
  refine z_lgt (tgt := 124) C d_X12_leastTo_115 d_X12_leastTo_116 (by decide) hf (fun c115 hf => ?_) (fun c115 hf => ?_)
  · exact z_sub [1, 2, 3, 4, 5, 6, 0, 7] rfl (t_X12_leastTo_124 C hr hk12 _ _ _ _ _ _ _ _ hf)
  · refine z_iload (j := 0) C d_X12_leastTo_119 rfl ?_
    refine z_if_eq (tgt := 154) C d_X12_leastTo_121 (by decide) hf (fun c121 hf => ?_) (fun c121 hf => ?_)
    · exact z_sub [1, 2, 3, 4, 5, 6, 0, 7] rfl (t_X12_leastTo_154 C hr hk12 _ _ _ _ _ _ _ _ hf)
    · exact z_sub [1, 2, 3, 4, 5, 6, 0, 7] rfl (t_X12_leastTo_124 C hr hk12 _ _ _ _ _ _ _ _ hf)
def f_X12_leastTo_58 (k12 : Int32 → Int32 → Int32 → Int32 → Int64 → Int32 → Mem → Option (Int64 × Mem)) (v1 : Int32) (v2 : Int32) (v3 : Int32) (v4 : Int32) (v5 : Int64) (v8 : Int32) (v11 : Int64) (S : Mem) : Option (Int64 × Mem) := ((f_X12_leastWithin v1 v2 v8 v3 v11 S).bind fun q66 => (if q66.1 ≤ 0 then (if v11 ≤ 0 then (f_X12_leastTo_98 k12 v1 v2 v3 v4 v5 v11 1 q66.2) else (f_X12_leastTo_98 k12 v1 v2 v3 v4 v5 v11 v11 q66.2)) else (some ((v5 + q66.1), q66.2))))
set_option maxRecDepth 20000 in
theorem t_X12_leastTo_58 {X : MC} {Γ : GG} (C : CX X Γ cX12_leastTo 15 "TickPoolsModel" 6 179) (hr : X.2.2.2.2.2.2.2.2.1.sig.returnType = some .long) {k12 : Int32 → Int32 → Int32 → Int32 → Int64 → Int32 → Mem → Option (Int64 × Mem)} {q : Int64 × Mem} (hk12 : ∀ (v1 : Int32) (v2 : Int32) (v3 : Int32) (v4 : Int32) (v5 : Int64) (v7 : Int32) (S : Mem), k12 v1 v2 v3 v4 v5 v7 S = some q → ZZ X Γ 15 (QQ X Γ (some (aJ q.1)) q.2) S 12 [(0, aR 20), (1, aI v1), (2, aI v2), (3, aI v3), (4, aI v4), (5, aJ v5), (7, aI v7)] []) (v1 : Int32) (v2 : Int32) (v3 : Int32) (v4 : Int32) (v5 : Int64) (v8 : Int32) (v11 : Int64) (S : Mem) (hf : f_X12_leastTo_58 k12 v1 v2 v3 v4 v5 v8 v11 S = some q) : ZZ X Γ 15 (QQ X Γ (some (aJ q.1)) q.2) S 58 [(0, aR 20), (1, aI v1), (2, aI v2), (3, aI v3), (4, aI v4), (5, aJ v5), (8, aI v8), (11, aJ v11)] [] := by
  unfold f_X12_leastTo_58 at hf
  refine z_aload_n (j := 0) C d_X12_leastTo_58 rfl ?_
  refine z_iload_n (j := 1) C d_X12_leastTo_59 rfl ?_
  refine z_iload_n (j := 2) C d_X12_leastTo_60 rfl ?_
  refine z_iload (j := 6) C d_X12_leastTo_61 rfl ?_
  refine z_iload_n (j := 3) C d_X12_leastTo_63 rfl ?_
  refine z_lload (j := 7) C d_X12_leastTo_64 rfl ?_
  obtain ⟨q66, hF, hf⟩ := bd hf
  refine z_callV1 (rest := []) C [aI v1, aI v2, aI v8, aI v3, aJ v11] rfl (by decide) rfl rfl k_X12_leastWithin tw_1816 ⟨by decide, by decide⟩ (Nat.le_of_ble_eq_true rfl) d_X12_leastTo_66 (c_X12_leastWithin C.inj hF) rfl ?_
  refine z_lstore (lv' := [(13, aJ q66.1), (0, aR 20), (1, aI v1), (2, aI v2), (3, aI v3), (4, aI v4), (5, aJ v5), (8, aI v8), (11, aJ v11)]) C d_X12_leastTo_69 (by decide) rfl ?_
  refine z_lload (j := 0) C d_X12_leastTo_71 rfl ?_
  refine z_lconst (v := 0) C d_X12_leastTo_73 (by decide) ?_
  refine z_lle (tgt := 84) C d_X12_leastTo_74 d_X12_leastTo_75 (by decide) hf (fun c74 hf => ?_) (fun c74 hf => ?_)
  · refine z_aload_n (j := 1) C d_X12_leastTo_84 rfl ?_
    refine z_lload (j := 8) C d_X12_leastTo_85 rfl ?_
    refine z_lconst (v := 0) C d_X12_leastTo_87 (by decide) ?_
    refine z_lle (tgt := 97) C d_X12_leastTo_88 d_X12_leastTo_89 (by decide) hf (fun c88 hf => ?_) (fun c88 hf => ?_)
    · refine z_lconst (v := 1) C d_X12_leastTo_97 (by decide) ?_
      exact z_sub [1, 2, 3, 4, 5, 6, 8] rfl (t_X12_leastTo_98 C hr hk12 _ _ _ _ _ _ _ _ hf)
    · refine z_lload (j := 8) C d_X12_leastTo_92 rfl ?_
      refine z_goto (tgt := 98) C d_X12_leastTo_94 (by decide) ?_
      exact z_sub [1, 2, 3, 4, 5, 6, 8] rfl (t_X12_leastTo_98 C hr hk12 _ _ _ _ _ _ _ _ hf)
  · refine z_lload (j := 6) C d_X12_leastTo_78 rfl ?_
    refine z_lload (j := 0) C d_X12_leastTo_80 rfl ?_
    refine z_ladd C d_X12_leastTo_82 ?_
    exact r_l C hr d_X12_leastTo_83 hf
def f_X12_leastTo_164 (S : Mem) : Option (Int64 × Mem) := (some (10000000, S))
set_option maxRecDepth 20000 in
theorem t_X12_leastTo_164 {X : MC} {Γ : GG} (C : CX X Γ cX12_leastTo 15 "TickPoolsModel" 6 179) (hr : X.2.2.2.2.2.2.2.2.1.sig.returnType = some .long) {q : Int64 × Mem} (S : Mem) (hf : f_X12_leastTo_164 S = some q) : ZZ X Γ 15 (QQ X Γ (some (aJ q.1)) q.2) S 164 [] [] := by
  unfold f_X12_leastTo_164 at hf
  refine z_ldc2 (v := 10000000) C tw_1827 d_X12_leastTo_164 ?_
  exact r_l C hr d_X12_leastTo_167 hf
def f_X12_leastTo_12B (k12 : Int32 → Int32 → Int32 → Int32 → Int64 → Int32 → Mem → Option (Int64 × Mem)) (v1 : Int32) (v2 : Int32) (v3 : Int32) (v4 : Int32) (v5 : Int64) (v7 : Int32) (S : Mem) : Option (Int64 × Mem) := (if v7 = 0 then (if 9999999 ≤ v5 then (f_X12_leastTo_164  S) else ((f_X12_aimOf v1 v2 v4 S).bind fun q31 => ((f_X12_wantedTo v1 v2 q31.1 q31.2).bind fun q41 => ((f_X12_feeUpon v1 q41.1 q41.2).bind fun q52 => (f_X12_leastTo_58 k12 v1 v2 v3 v4 v5 q31.1 (q41.1 + q52.1) q52.2))))) else (f_X12_leastTo_164  S))
set_option maxRecDepth 20000 in
theorem t_X12_leastTo_12B {X : MC} {Γ : GG} (C : CX X Γ cX12_leastTo 15 "TickPoolsModel" 6 179) (hr : X.2.2.2.2.2.2.2.2.1.sig.returnType = some .long) {k12 : Int32 → Int32 → Int32 → Int32 → Int64 → Int32 → Mem → Option (Int64 × Mem)} {q : Int64 × Mem} (hk12 : ∀ (v1 : Int32) (v2 : Int32) (v3 : Int32) (v4 : Int32) (v5 : Int64) (v7 : Int32) (S : Mem), k12 v1 v2 v3 v4 v5 v7 S = some q → ZZ X Γ 15 (QQ X Γ (some (aJ q.1)) q.2) S 12 [(0, aR 20), (1, aI v1), (2, aI v2), (3, aI v3), (4, aI v4), (5, aJ v5), (7, aI v7)] []) (v1 : Int32) (v2 : Int32) (v3 : Int32) (v4 : Int32) (v5 : Int64) (v7 : Int32) (S : Mem) (hf : f_X12_leastTo_12B k12 v1 v2 v3 v4 v5 v7 S = some q) : ZZ X Γ 15 (QQ X Γ (some (aJ q.1)) q.2) S 12 [(0, aR 20), (1, aI v1), (2, aI v2), (3, aI v3), (4, aI v4), (5, aJ v5), (7, aI v7)] [] := by
  unfold f_X12_leastTo_12B at hf
  refine z_iload (j := 6) C d_X12_leastTo_12 rfl ?_
  refine z_if_ne (tgt := 164) C d_X12_leastTo_14 (by decide) hf (fun c14 hf => ?_) (fun c14 hf => ?_)
  · exact z_sub [] rfl (t_X12_leastTo_164 C hr  _ hf)
  · refine z_lload (j := 5) C d_X12_leastTo_17 rfl ?_
    refine z_ldc2 (v := 9999999) C tw_1595 d_X12_leastTo_19 ?_
    refine z_lge (tgt := 164) C d_X12_leastTo_22 d_X12_leastTo_23 (by decide) hf (fun c22 hf => ?_) (fun c22 hf => ?_)
    · exact z_sub [] rfl (t_X12_leastTo_164 C hr  _ hf)
    · refine z_aload_n (j := 0) C d_X12_leastTo_26 rfl ?_
      refine z_iload_n (j := 1) C d_X12_leastTo_27 rfl ?_
      refine z_iload_n (j := 2) C d_X12_leastTo_28 rfl ?_
      refine z_iload (j := 4) C d_X12_leastTo_29 rfl ?_
      obtain ⟨q31, hF, hf⟩ := bd hf
      refine z_callV1 (rest := []) C [aI v1, aI v2, aI v4] rfl (by decide) rfl rfl k_X12_aimOf tw_1616 ⟨by decide, by decide⟩ (Nat.le_of_ble_eq_true rfl) d_X12_leastTo_31 (c_X12_aimOf C.inj hF) rfl ?_
      refine z_istore (lv' := [(8, aI q31.1), (0, aR 20), (1, aI v1), (2, aI v2), (3, aI v3), (4, aI v4), (5, aJ v5), (7, aI v7)]) C d_X12_leastTo_34 (by decide) rfl ?_
      refine z_aload_n (j := 1) C d_X12_leastTo_36 rfl ?_
      refine z_iload_n (j := 2) C d_X12_leastTo_37 rfl ?_
      refine z_iload_n (j := 3) C d_X12_leastTo_38 rfl ?_
      refine z_iload (j := 0) C d_X12_leastTo_39 rfl ?_
      obtain ⟨q41, hF, hf⟩ := bd hf
      refine z_callV1 (rest := []) C [aI v1, aI v2, aI q31.1] rfl (by decide) rfl rfl k_X12_wantedTo tw_1633 ⟨by decide, by decide⟩ (Nat.le_of_ble_eq_true rfl) d_X12_leastTo_41 (c_X12_wantedTo C.inj hF) rfl ?_
      refine z_lstore (lv' := [(9, aJ q41.1), (8, aI q31.1), (0, aR 20), (1, aI v1), (2, aI v2), (3, aI v3), (4, aI v4), (5, aJ v5), (7, aI v7)]) C d_X12_leastTo_44 (by decide) rfl ?_
      refine z_lload (j := 0) C d_X12_leastTo_46 rfl ?_
      refine z_aload_n (j := 2) C d_X12_leastTo_48 rfl ?_
      refine z_iload_n (j := 3) C d_X12_leastTo_49 rfl ?_
      refine z_lload (j := 0) C d_X12_leastTo_50 rfl ?_
      obtain ⟨q52, hF, hf⟩ := bd hf
      refine z_callV1 (rest := [aJ q41.1]) C [aI v1, aJ q41.1] rfl (by decide) rfl rfl k_X12_feeUpon tw_1645 ⟨by decide, by decide⟩ (Nat.le_of_ble_eq_true rfl) d_X12_leastTo_52 (c_X12_feeUpon C.inj hF) rfl ?_
      refine z_ladd C d_X12_leastTo_55 ?_
      refine z_lstore (lv' := [(11, aJ (q41.1 + q52.1)), (9, aJ q41.1), (8, aI q31.1), (0, aR 20), (1, aI v1), (2, aI v2), (3, aI v3), (4, aI v4), (5, aJ v5), (7, aI v7)]) C d_X12_leastTo_56 (by decide) rfl ?_
      exact z_sub [3, 4, 5, 6, 7, 8, 2, 0] rfl (t_X12_leastTo_58 C hr hk12 _ _ _ _ _ _ _ _ hf)
def f_X12_leastTo_12 : Nat → Int32 → Int32 → Int32 → Int32 → Int64 → Int32 → Mem → Option (Int64 × Mem)
  | 0 => fun _ _ _ _ _ _ _ => none
  | n + 1 => f_X12_leastTo_12B (f_X12_leastTo_12 n)
theorem t_X12_leastTo_12 {X : MC} {Γ : GG} (C : CX X Γ cX12_leastTo 15 "TickPoolsModel" 6 179) (hr : X.2.2.2.2.2.2.2.2.1.sig.returnType = some .long) {q : Int64 × Mem} : ∀ (n : Nat) (v1 : Int32) (v2 : Int32) (v3 : Int32) (v4 : Int32) (v5 : Int64) (v7 : Int32) (S : Mem) (hf : f_X12_leastTo_12 n v1 v2 v3 v4 v5 v7 S = some q), ZZ X Γ 15 (QQ X Γ (some (aJ q.1)) q.2) S 12 [(0, aR 20), (1, aI v1), (2, aI v2), (3, aI v3), (4, aI v4), (5, aJ v5), (7, aI v7)] []
  | 0, _, _, _, _, _, _, _, hf => nomatch (show (none : Option (Int64 × Mem)) = some q from hf)
  | n + 1, v1, v2, v3, v4, v5, v7, S, hf => t_X12_leastTo_12B C hr (t_X12_leastTo_12 C hr n) v1 v2 v3 v4 v5 v7 S hf
/-- TickPoolsModel.leastTo(III)J -/
def f_X12_leastTo (p1 : Int32) (p2 : Int32) (p3 : Int32) (S : Mem) : Option (Int64 × Mem) := ((f_X12_endOf p2 S).bind fun q1 => (f_X12_leastTo_12  100000 p1 p2 p3 q1.1 0 0 q1.2))
set_option maxRecDepth 20000 in
theorem c_X12_leastTo {l : Launch} {Γ : GG} (hI : Inj Γ) {p1 : Int32} {p2 : Int32} {p3 : Int32} {S : Mem} {q : Int64 × Mem} (hf : f_X12_leastTo p1 p2 p3 S = some q) : MM l Γ yX12_leastTo cX12_leastTo 15 (some .long) 6 179 [aR 20, aI p1, aI p2, aI p3] S (some (aJ q.1)) q.2 := by
  refine met_of hI "TickPoolsModel" rfl (by decide +kernel) (Nat.le_of_ble_eq_true rfl) (fun X hX C hr => ?_)
  unfold f_X12_leastTo at hf
  show ZZ X Γ 15 _ S 0 [(0, aR 20), (1, aI p1), (2, aI p2), (3, aI p3)] []
  refine z_iload_n (j := 2) C d_X12_leastTo_0 rfl ?_
  obtain ⟨q1, hF, hf⟩ := bd hf
  refine z_callS1 (rest := []) C [aI p2] k_X12_endOf tw_1674 ⟨by decide, by decide⟩ (Nat.le_of_ble_eq_true rfl) d_X12_leastTo_1 (c_X12_endOf C.inj hF) rfl ?_
  refine z_istore (lv' := [(4, aI q1.1), (0, aR 20), (1, aI p1), (2, aI p2), (3, aI p3)]) C d_X12_leastTo_4 (by decide) rfl ?_
  refine z_lconst (v := 0) C d_X12_leastTo_6 (by decide) ?_
  refine z_lstore (lv' := [(5, aJ 0), (4, aI q1.1), (0, aR 20), (1, aI p1), (2, aI p2), (3, aI p3)]) C d_X12_leastTo_7 (by decide) rfl ?_
  refine z_iconst (v := 0) C d_X12_leastTo_9 (by decide) ?_
  refine z_istore (lv' := [(7, aI 0), (5, aJ 0), (4, aI q1.1), (0, aR 20), (1, aI p1), (2, aI p2), (3, aI p3)]) C d_X12_leastTo_10 (by decide) rfl ?_
  exact z_sub [3, 4, 5, 6, 2, 1, 0] rfl (t_X12_leastTo_12 C hr  100000 _ _ _ _ _ _ _ hf)
theorem d_X12_least_0 : decode cX12_least 0 = .ok (.aload_n 0, 1) := by decide +kernel
theorem d_X12_least_1 : decode cX12_least 1 = .ok (.iload_n 1, 1) := by decide +kernel
theorem d_X12_least_2 : decode cX12_least 2 = .ok (.invokevirtual 284, 3) := by decide +kernel
theorem d_X12_least_5 : decode cX12_least 5 = .ok (.ifCond .eq 22, 3) := by decide +kernel
theorem d_X12_least_8 : decode cX12_least 8 = .ok (.iload_n 2, 1) := by decide +kernel
theorem d_X12_least_9 : decode cX12_least 9 = .ok (.invokestatic 388, 3) := by decide +kernel
theorem d_X12_least_12 : decode cX12_least 12 = .ok (.ifCond .eq 15, 3) := by decide +kernel
theorem d_X12_least_15 : decode cX12_least 15 = .ok (.iload_n 3, 1) := by decide +kernel
theorem d_X12_least_16 : decode cX12_least 16 = .ok (.i2l, 1) := by decide +kernel
theorem d_X12_least_17 : decode cX12_least 17 = .ok (.lconst 0, 1) := by decide +kernel
theorem d_X12_least_18 : decode cX12_least 18 = .ok (.ldc2_w 508, 3) := by decide +kernel
theorem d_X12_least_21 : decode cX12_least 21 = .ok (.invokestatic 137, 3) := by decide +kernel
theorem d_X12_least_24 : decode cX12_least 24 = .ok (.ifCond .ne 5, 3) := by decide +kernel
theorem d_X12_least_27 : decode cX12_least 27 = .ok (.iconst (-1), 1) := by decide +kernel
theorem d_X12_least_28 : decode cX12_least 28 = .ok (.ireturn, 1) := by decide +kernel
theorem d_X12_least_29 : decode cX12_least 29 = .ok (.aload_n 0, 1) := by decide +kernel
theorem d_X12_least_30 : decode cX12_least 30 = .ok (.iconst 0, 1) := by decide +kernel
theorem d_X12_least_31 : decode cX12_least 31 = .ok (.invokevirtual 401, 3) := by decide +kernel
theorem d_X12_least_34 : decode cX12_least 34 = .ok (.aload_n 0, 1) := by decide +kernel
theorem d_X12_least_35 : decode cX12_least 35 = .ok (.iload_n 1, 1) := by decide +kernel
theorem d_X12_least_36 : decode cX12_least 36 = .ok (.iload_n 2, 1) := by decide +kernel
theorem d_X12_least_37 : decode cX12_least 37 = .ok (.iload_n 3, 1) := by decide +kernel
theorem d_X12_least_38 : decode cX12_least 38 = .ok (.invokevirtual 527, 3) := by decide +kernel
theorem d_X12_least_41 : decode cX12_least 41 = .ok (.lstore 4, 2) := by decide +kernel
theorem d_X12_least_43 : decode cX12_least 43 = .ok (.aload_n 0, 1) := by decide +kernel
theorem d_X12_least_44 : decode cX12_least 44 = .ok (.iconst 0, 1) := by decide +kernel
theorem d_X12_least_45 : decode cX12_least 45 = .ok (.invokevirtual 407, 3) := by decide +kernel
theorem d_X12_least_48 : decode cX12_least 48 = .ok (.lload 4, 2) := by decide +kernel
theorem d_X12_least_50 : decode cX12_least 50 = .ok (.ldc2_w 386, 3) := by decide +kernel
theorem d_X12_least_53 : decode cX12_least 53 = .ok (.lcmp, 1) := by decide +kernel
theorem d_X12_least_54 : decode cX12_least 54 = .ok (.ifCond .gt 9, 3) := by decide +kernel
theorem d_X12_least_57 : decode cX12_least 57 = .ok (.lload 4, 2) := by decide +kernel
theorem d_X12_least_59 : decode cX12_least 59 = .ok (.l2i, 1) := by decide +kernel
theorem d_X12_least_60 : decode cX12_least 60 = .ok (.goto 5, 3) := by decide +kernel
theorem d_X12_least_63 : decode cX12_least 63 = .ok (.bipush (-2), 2) := by decide +kernel
theorem d_X12_least_65 : decode cX12_least 65 = .ok (.ireturn, 1) := by decide +kernel
def f_X12_least_27 (S : Mem) : Option (Int32 × Mem) := (some ((-1), S))
set_option maxRecDepth 20000 in
theorem t_X12_least_27 {X : MC} {Γ : GG} (C : CX X Γ cX12_least 6 "TickPoolsModel" 7 213) (hr : X.2.2.2.2.2.2.2.2.1.sig.returnType = some .int) {q : Int32 × Mem} (S : Mem) (hf : f_X12_least_27 S = some q) : ZZ X Γ 6 (QQ X Γ (some (aI q.1)) q.2) S 27 [] [] := by
  unfold f_X12_least_27 at hf
  refine z_iconst (v := (-1)) C d_X12_least_27 (by decide) ?_
  exact r_i C hr rfl d_X12_least_28 hf
def f_X12_least_65 (s0 : Int32) (S : Mem) : Option (Int32 × Mem) := (some (s0, S))
set_option maxRecDepth 20000 in
theorem t_X12_least_65 {X : MC} {Γ : GG} (C : CX X Γ cX12_least 6 "TickPoolsModel" 7 213) (hr : X.2.2.2.2.2.2.2.2.1.sig.returnType = some .int) {q : Int32 × Mem} (s0 : Int32) (S : Mem) (hf : f_X12_least_65 s0 S = some q) : ZZ X Γ 6 (QQ X Γ (some (aI q.1)) q.2) S 65 [] [aI s0] := by
  unfold f_X12_least_65 at hf
  exact r_i C hr rfl d_X12_least_65 hf
/-- TickPoolsModel.least(III)I -/
def f_X12_least (p1 : Int32) (p2 : Int32) (p3 : Int32) (S : Mem) : Option (Int32 × Mem) := ((f_X12_isPool p1 S).bind fun q2 => (if q2.1 = 0 then (f_X12_least_27  q2.2) else ((f_X12_isSide p2 q2.2).bind fun q9 => (if q9.1 = 0 then (f_X12_least_27  q9.2) else ((f_X12_isIn (p3.toInt64) 0 39 q9.2).bind fun q21 => (if q21.1 = 0 then (f_X12_least_27  q21.2) else ((f_X12_keeps 0 q21.2).bind fun q31 => ((f_X12_leastTo p1 p2 p3 q31.2).bind fun q38 => ((f_X12_laysBack 0 q38.2).bind fun q45 => (if 9999999 < q38.1 then (f_X12_least_65  (-2) q45.2) else (f_X12_least_65  ((q38.1 : Int64).toInt32) q45.2)))))))))))
set_option maxRecDepth 20000 in
theorem c_X12_least {l : Launch} {Γ : GG} (hI : Inj Γ) {p1 : Int32} {p2 : Int32} {p3 : Int32} {S : Mem} {q : Int32 × Mem} (hf : f_X12_least p1 p2 p3 S = some q) : MM l Γ yX12_least cX12_least 6 (some .int) 7 213 [aR 20, aI p1, aI p2, aI p3] S (some (aI q.1)) q.2 := by
  refine met_of hI "TickPoolsModel" rfl (by decide +kernel) (Nat.le_of_ble_eq_true rfl) (fun X hX C hr => ?_)
  unfold f_X12_least at hf
  show ZZ X Γ 6 _ S 0 [(0, aR 20), (1, aI p1), (2, aI p2), (3, aI p3)] []
  refine z_aload_n (j := 0) C d_X12_least_0 rfl ?_
  refine z_iload_n (j := 1) C d_X12_least_1 rfl ?_
  obtain ⟨q2, hF, hf⟩ := bd hf
  refine z_callV1 (rest := []) C [aI p1] rfl (by decide) rfl rfl k_X12_isPool tw_1471 ⟨by decide, by decide⟩ (Nat.le_of_ble_eq_true rfl) d_X12_least_2 (c_X12_isPool C.inj hF) rfl ?_
  refine z_if_eq (tgt := 27) C d_X12_least_5 (by decide) hf (fun c5 hf => ?_) (fun c5 hf => ?_)
  · exact z_sub [] rfl (t_X12_least_27 C hr  _ hf)
  · refine z_iload_n (j := 2) C d_X12_least_8 rfl ?_
    obtain ⟨q9, hF, hf⟩ := bd hf
    refine z_callS1 (rest := []) C [aI p2] k_X12_isSide tw_1600 ⟨by decide, by decide⟩ (Nat.le_of_ble_eq_true rfl) d_X12_least_9 (c_X12_isSide C.inj hF) rfl ?_
    refine z_if_eq (tgt := 27) C d_X12_least_12 (by decide) hf (fun c12 hf => ?_) (fun c12 hf => ?_)
    · exact z_sub [] rfl (t_X12_least_27 C hr  _ hf)
    · refine z_iload_n (j := 3) C d_X12_least_15 rfl ?_
      refine z_i2l C d_X12_least_16 ?_
      refine z_lconst (v := 0) C d_X12_least_17 (by decide) ?_
      refine z_ldc2 (v := 39) C tw_1789 d_X12_least_18 ?_
      obtain ⟨q21, hF, hf⟩ := bd hf
      refine z_callS1 (rest := []) C [aJ (p3.toInt64), aJ 0, aJ 39] k_X12_isIn tw_1385 ⟨by decide, by decide⟩ (Nat.le_of_ble_eq_true rfl) d_X12_least_21 (c_X12_isIn C.inj hF) rfl ?_
      refine z_if_ne (tgt := 29) C d_X12_least_24 (by decide) hf (fun c24 hf => ?_) (fun c24 hf => ?_)
      · refine z_aload_n (j := 0) C d_X12_least_29 rfl ?_
        refine z_iconst (v := 0) C d_X12_least_30 (by decide) ?_
        obtain ⟨q31, hF, hf⟩ := bd hf
        refine z_callV0 (rest := []) C [aI 0] rfl (by decide) rfl rfl k_X12_keeps tw_1670 ⟨by decide, by decide⟩ (Nat.le_of_ble_eq_true rfl) d_X12_least_31 (c_X12_keeps C.inj hF) rfl ?_
        refine z_aload_n (j := 0) C d_X12_least_34 rfl ?_
        refine z_iload_n (j := 1) C d_X12_least_35 rfl ?_
        refine z_iload_n (j := 2) C d_X12_least_36 rfl ?_
        refine z_iload_n (j := 3) C d_X12_least_37 rfl ?_
        obtain ⟨q38, hF, hf⟩ := bd hf
        refine z_callV1 (rest := []) C [aI p1, aI p2, aI p3] rfl (by decide) rfl rfl k_X12_leastTo tw_1812 ⟨by decide, by decide⟩ (Nat.le_of_ble_eq_true rfl) d_X12_least_38 (c_X12_leastTo C.inj hF) rfl ?_
        refine z_lstore (lv' := [(4, aJ q38.1), (0, aR 20), (1, aI p1), (2, aI p2), (3, aI p3)]) C d_X12_least_41 (by decide) rfl ?_
        refine z_aload_n (j := 1) C d_X12_least_43 rfl ?_
        refine z_iconst (v := 0) C d_X12_least_44 (by decide) ?_
        obtain ⟨q45, hF, hf⟩ := bd hf
        refine z_callV0 (rest := []) C [aI 0] rfl (by decide) rfl rfl k_X12_laysBack tw_1677 ⟨by decide, by decide⟩ (Nat.le_of_ble_eq_true rfl) d_X12_least_45 (c_X12_laysBack C.inj hF) rfl ?_
        refine z_lload (j := 0) C d_X12_least_48 rfl ?_
        refine z_ldc2 (v := 9999999) C tw_1595 d_X12_least_50 ?_
        refine z_lgt (tgt := 63) C d_X12_least_53 d_X12_least_54 (by decide) hf (fun c53 hf => ?_) (fun c53 hf => ?_)
        · refine z_bipush (v := (-2)) C d_X12_least_63 (by decide) ?_
          exact z_sub [] rfl (t_X12_least_65 C hr  _ _ hf)
        · refine z_lload (j := 0) C d_X12_least_57 rfl ?_
          refine z_l2i C d_X12_least_59 ?_
          refine z_goto (tgt := 65) C d_X12_least_60 (by decide) ?_
          exact z_sub [] rfl (t_X12_least_65 C hr  _ _ hf)
      · exact z_sub [] rfl (t_X12_least_27 C hr  _ hf)
theorem d_X12_lengthOf_0 : decode cX12_lengthOf 0 = .ok (.iload_n 0, 1) := by decide +kernel
theorem d_X12_lengthOf_1 : decode cX12_lengthOf 1 = .ok (.bipush 6, 2) := by decide +kernel
theorem d_X12_lengthOf_3 : decode cX12_lengthOf 3 = .ok (.if_icmp .ge 7, 3) := by decide +kernel
theorem d_X12_lengthOf_6 : decode cX12_lengthOf 6 = .ok (.iconst 1, 1) := by decide +kernel
theorem d_X12_lengthOf_7 : decode cX12_lengthOf 7 = .ok (.goto 14, 3) := by decide +kernel
theorem d_X12_lengthOf_10 : decode cX12_lengthOf 10 = .ok (.iload_n 0, 1) := by decide +kernel
theorem d_X12_lengthOf_11 : decode cX12_lengthOf 11 = .ok (.bipush 36, 2) := by decide +kernel
theorem d_X12_lengthOf_13 : decode cX12_lengthOf 13 = .ok (.if_icmp .ge 7, 3) := by decide +kernel
theorem d_X12_lengthOf_16 : decode cX12_lengthOf 16 = .ok (.iconst 2, 1) := by decide +kernel
theorem d_X12_lengthOf_17 : decode cX12_lengthOf 17 = .ok (.goto 4, 3) := by decide +kernel
theorem d_X12_lengthOf_20 : decode cX12_lengthOf 20 = .ok (.iconst 3, 1) := by decide +kernel
theorem d_X12_lengthOf_21 : decode cX12_lengthOf 21 = .ok (.ireturn, 1) := by decide +kernel
def f_X12_lengthOf_21 (s0 : Int32) (S : Mem) : Option (Int32 × Mem) := (some (s0, S))
set_option maxRecDepth 20000 in
theorem t_X12_lengthOf_21 {X : MC} {Γ : GG} (C : CX X Γ cX12_lengthOf 1 "TickPoolsModel" 0 0) (hr : X.2.2.2.2.2.2.2.2.1.sig.returnType = some .int) {q : Int32 × Mem} (s0 : Int32) (S : Mem) (hf : f_X12_lengthOf_21 s0 S = some q) : ZZ X Γ 1 (QQ X Γ (some (aI q.1)) q.2) S 21 [] [aI s0] := by
  unfold f_X12_lengthOf_21 at hf
  exact r_i C hr rfl d_X12_lengthOf_21 hf
/-- TickPoolsModel.lengthOf(I)I -/
def f_X12_lengthOf (p0 : Int32) (S : Mem) : Option (Int32 × Mem) := (if 6 ≤ p0 then (if 36 ≤ p0 then (f_X12_lengthOf_21  3 S) else (f_X12_lengthOf_21  2 S)) else (f_X12_lengthOf_21  1 S))
set_option maxRecDepth 20000 in
theorem c_X12_lengthOf {l : Launch} {Γ : GG} (hI : Inj Γ) {p0 : Int32} {S : Mem} {q : Int32 × Mem} (hf : f_X12_lengthOf p0 S = some q) : MM l Γ yX12_lengthOf cX12_lengthOf 1 (some .int) 0 0 [aI p0] S (some (aI q.1)) q.2 := by
  refine met_of hI "TickPoolsModel" rfl (by decide +kernel) (Nat.le_of_ble_eq_true rfl) (fun X hX C hr => ?_)
  unfold f_X12_lengthOf at hf
  show ZZ X Γ 1 _ S 0 [(0, aI p0)] []
  refine z_iload_n (j := 0) C d_X12_lengthOf_0 rfl ?_
  refine z_bipush (v := 6) C d_X12_lengthOf_1 (by decide) ?_
  refine z_icmp_ge (tgt := 10) C d_X12_lengthOf_3 (by decide) hf (fun c3 hf => ?_) (fun c3 hf => ?_)
  · refine z_iload_n (j := 0) C d_X12_lengthOf_10 rfl ?_
    refine z_bipush (v := 36) C d_X12_lengthOf_11 (by decide) ?_
    refine z_icmp_ge (tgt := 20) C d_X12_lengthOf_13 (by decide) hf (fun c13 hf => ?_) (fun c13 hf => ?_)
    · refine z_iconst (v := 3) C d_X12_lengthOf_20 (by decide) ?_
      exact z_sub [] rfl (t_X12_lengthOf_21 C hr  _ _ hf)
    · refine z_iconst (v := 2) C d_X12_lengthOf_16 (by decide) ?_
      refine z_goto (tgt := 21) C d_X12_lengthOf_17 (by decide) ?_
      exact z_sub [] rfl (t_X12_lengthOf_21 C hr  _ _ hf)
  · refine z_iconst (v := 1) C d_X12_lengthOf_6 (by decide) ?_
    refine z_goto (tgt := 21) C d_X12_lengthOf_7 (by decide) ?_
    exact z_sub [] rfl (t_X12_lengthOf_21 C hr  _ _ hf)
theorem d_X12_poolIn_0 : decode cX12_poolIn 0 = .ok (.iload_n 0, 1) := by decide +kernel
theorem d_X12_poolIn_1 : decode cX12_poolIn 1 = .ok (.istore_n 2, 1) := by decide +kernel
theorem d_X12_poolIn_2 : decode cX12_poolIn 2 = .ok (.iload_n 0, 1) := by decide +kernel
theorem d_X12_poolIn_3 : decode cX12_poolIn 3 = .ok (.invokestatic 530, 3) := by decide +kernel
theorem d_X12_poolIn_6 : decode cX12_poolIn 6 = .ok (.iconst 1, 1) := by decide +kernel
theorem d_X12_poolIn_7 : decode cX12_poolIn 7 = .ok (.isub, 1) := by decide +kernel
theorem d_X12_poolIn_8 : decode cX12_poolIn 8 = .ok (.istore_n 3, 1) := by decide +kernel
theorem d_X12_poolIn_9 : decode cX12_poolIn 9 = .ok (.iload_n 3, 1) := by decide +kernel
theorem d_X12_poolIn_10 : decode cX12_poolIn 10 = .ok (.iload_n 1, 1) := by decide +kernel
theorem d_X12_poolIn_11 : decode cX12_poolIn 11 = .ok (.if_icmp .le 14, 3) := by decide +kernel
theorem d_X12_poolIn_14 : decode cX12_poolIn 14 = .ok (.iload_n 2, 1) := by decide +kernel
theorem d_X12_poolIn_15 : decode cX12_poolIn 15 = .ok (.bipush 6, 2) := by decide +kernel
theorem d_X12_poolIn_17 : decode cX12_poolIn 17 = .ok (.idiv, 1) := by decide +kernel
theorem d_X12_poolIn_18 : decode cX12_poolIn 18 = .ok (.istore_n 2, 1) := by decide +kernel
theorem d_X12_poolIn_19 : decode cX12_poolIn 19 = .ok (.iinc 3 (-1), 3) := by decide +kernel
theorem d_X12_poolIn_22 : decode cX12_poolIn 22 = .ok (.goto (-13), 3) := by decide +kernel
theorem d_X12_poolIn_25 : decode cX12_poolIn 25 = .ok (.iload_n 2, 1) := by decide +kernel
theorem d_X12_poolIn_26 : decode cX12_poolIn 26 = .ok (.bipush 6, 2) := by decide +kernel
theorem d_X12_poolIn_28 : decode cX12_poolIn 28 = .ok (.irem, 1) := by decide +kernel
theorem d_X12_poolIn_29 : decode cX12_poolIn 29 = .ok (.iconst 1, 1) := by decide +kernel
theorem d_X12_poolIn_30 : decode cX12_poolIn 30 = .ok (.isub, 1) := by decide +kernel
theorem d_X12_poolIn_31 : decode cX12_poolIn 31 = .ok (.ireturn, 1) := by decide +kernel
def f_X12_poolIn_19 (k9 : Int32 → Int32 → Int32 → Mem → Option (Int32 × Mem)) (v1 : Int32) (v2 : Int32) (v3 : Int32) (S : Mem) : Option (Int32 × Mem) := (k9 v1 v2 (v3 + (-1)) S)
set_option maxRecDepth 20000 in
theorem t_X12_poolIn_19 {X : MC} {Γ : GG} (C : CX X Γ cX12_poolIn 4 "TickPoolsModel" 1 20) (hr : X.2.2.2.2.2.2.2.2.1.sig.returnType = some .int) {k9 : Int32 → Int32 → Int32 → Mem → Option (Int32 × Mem)} {q : Int32 × Mem} (hk9 : ∀ (v1 : Int32) (v2 : Int32) (v3 : Int32) (S : Mem), k9 v1 v2 v3 S = some q → ZZ X Γ 4 (QQ X Γ (some (aI q.1)) q.2) S 9 [(1, aI v1), (2, aI v2), (3, aI v3)] []) (v1 : Int32) (v2 : Int32) (v3 : Int32) (S : Mem) (hf : f_X12_poolIn_19 k9 v1 v2 v3 S = some q) : ZZ X Γ 4 (QQ X Γ (some (aI q.1)) q.2) S 19 [(1, aI v1), (2, aI v2), (3, aI v3)] [] := by
  unfold f_X12_poolIn_19 at hf
  refine z_iinc (j := 2) (v := (v3 + (-1))) (lv' := [(3, aI (v3 + (-1))), (1, aI v1), (2, aI v2)]) C d_X12_poolIn_19 rfl rfl (by decide) rfl ?_
  refine z_goto (tgt := 9) C d_X12_poolIn_22 (by decide) ?_
  exact z_sub [1, 2, 0] rfl (hk9 _ _ _ _ hf)
def f_X12_poolIn_9B (k9 : Int32 → Int32 → Int32 → Mem → Option (Int32 × Mem)) (v1 : Int32) (v2 : Int32) (v3 : Int32) (S : Mem) : Option (Int32 × Mem) := (if v3 ≤ v1 then (some (((v2 % 6) - 1), S)) else (f_X12_poolIn_19 k9 v1 (v2 / 6) v3 S))
set_option maxRecDepth 20000 in
theorem t_X12_poolIn_9B {X : MC} {Γ : GG} (C : CX X Γ cX12_poolIn 4 "TickPoolsModel" 1 20) (hr : X.2.2.2.2.2.2.2.2.1.sig.returnType = some .int) {k9 : Int32 → Int32 → Int32 → Mem → Option (Int32 × Mem)} {q : Int32 × Mem} (hk9 : ∀ (v1 : Int32) (v2 : Int32) (v3 : Int32) (S : Mem), k9 v1 v2 v3 S = some q → ZZ X Γ 4 (QQ X Γ (some (aI q.1)) q.2) S 9 [(1, aI v1), (2, aI v2), (3, aI v3)] []) (v1 : Int32) (v2 : Int32) (v3 : Int32) (S : Mem) (hf : f_X12_poolIn_9B k9 v1 v2 v3 S = some q) : ZZ X Γ 4 (QQ X Γ (some (aI q.1)) q.2) S 9 [(1, aI v1), (2, aI v2), (3, aI v3)] [] := by
  unfold f_X12_poolIn_9B at hf
  refine z_iload_n (j := 2) C d_X12_poolIn_9 rfl ?_
  refine z_iload_n (j := 0) C d_X12_poolIn_10 rfl ?_
  refine z_icmp_le (tgt := 25) C d_X12_poolIn_11 (by decide) hf (fun c11 hf => ?_) (fun c11 hf => ?_)
  · refine z_iload_n (j := 1) C d_X12_poolIn_25 rfl ?_
    refine z_bipush (v := 6) C d_X12_poolIn_26 (by decide) ?_
    refine z_irem C d_X12_poolIn_28 (by decide) ?_
    refine z_iconst (v := 1) C d_X12_poolIn_29 (by decide) ?_
    refine z_isub C d_X12_poolIn_30 ?_
    exact r_i C hr rfl d_X12_poolIn_31 hf
  · refine z_iload_n (j := 1) C d_X12_poolIn_14 rfl ?_
    refine z_bipush (v := 6) C d_X12_poolIn_15 (by decide) ?_
    refine z_idiv C d_X12_poolIn_17 (by decide) ?_
    refine z_istore_n (lv' := [(2, aI (v2 / 6)), (1, aI v1), (3, aI v3)]) C d_X12_poolIn_18 (by decide) rfl ?_
    exact z_sub [1, 0, 2] rfl (t_X12_poolIn_19 C hr hk9 _ _ _ _ hf)
def f_X12_poolIn_9 : Nat → Int32 → Int32 → Int32 → Mem → Option (Int32 × Mem)
  | 0 => fun _ _ _ _ => none
  | n + 1 => f_X12_poolIn_9B (f_X12_poolIn_9 n)
theorem t_X12_poolIn_9 {X : MC} {Γ : GG} (C : CX X Γ cX12_poolIn 4 "TickPoolsModel" 1 20) (hr : X.2.2.2.2.2.2.2.2.1.sig.returnType = some .int) {q : Int32 × Mem} : ∀ (n : Nat) (v1 : Int32) (v2 : Int32) (v3 : Int32) (S : Mem) (hf : f_X12_poolIn_9 n v1 v2 v3 S = some q), ZZ X Γ 4 (QQ X Γ (some (aI q.1)) q.2) S 9 [(1, aI v1), (2, aI v2), (3, aI v3)] []
  | 0, _, _, _, _, hf => nomatch (show (none : Option (Int32 × Mem)) = some q from hf)
  | n + 1, v1, v2, v3, S, hf => t_X12_poolIn_9B C hr (t_X12_poolIn_9 C hr n) v1 v2 v3 S hf
/-- TickPoolsModel.poolIn(II)I -/
def f_X12_poolIn (p0 : Int32) (p1 : Int32) (S : Mem) : Option (Int32 × Mem) := ((f_X12_lengthOf p0 S).bind fun q3 => (f_X12_poolIn_9  100000 p1 p0 (q3.1 - 1) q3.2))
set_option maxRecDepth 20000 in
theorem c_X12_poolIn {l : Launch} {Γ : GG} (hI : Inj Γ) {p0 : Int32} {p1 : Int32} {S : Mem} {q : Int32 × Mem} (hf : f_X12_poolIn p0 p1 S = some q) : MM l Γ yX12_poolIn cX12_poolIn 4 (some .int) 1 20 [aI p0, aI p1] S (some (aI q.1)) q.2 := by
  refine met_of hI "TickPoolsModel" rfl (by decide +kernel) (Nat.le_of_ble_eq_true rfl) (fun X hX C hr => ?_)
  unfold f_X12_poolIn at hf
  show ZZ X Γ 4 _ S 0 [(0, aI p0), (1, aI p1)] []
  refine z_iload_n (j := 0) C d_X12_poolIn_0 rfl ?_
  refine z_istore_n (lv' := [(2, aI p0), (0, aI p0), (1, aI p1)]) C d_X12_poolIn_1 (by decide) rfl ?_
  refine z_iload_n (j := 1) C d_X12_poolIn_2 rfl ?_
  obtain ⟨q3, hF, hf⟩ := bd hf
  refine z_callS1 (rest := []) C [aI p0] k_X12_lengthOf tw_1844 ⟨by decide, by decide⟩ (Nat.le_of_ble_eq_true rfl) d_X12_poolIn_3 (c_X12_lengthOf C.inj hF) rfl ?_
  refine z_iconst (v := 1) C d_X12_poolIn_6 (by decide) ?_
  refine z_isub C d_X12_poolIn_7 ?_
  refine z_istore_n (lv' := [(3, aI (q3.1 - 1)), (2, aI p0), (0, aI p0), (1, aI p1)]) C d_X12_poolIn_8 (by decide) rfl ?_
  exact z_sub [3, 1, 0] rfl (t_X12_poolIn_9 C hr  100000 _ _ _ _ hf)
theorem d_X12_hop_0 : decode cX12_hop 0 = .ok (.aload_n 0, 1) := by decide +kernel
theorem d_X12_hop_1 : decode cX12_hop 1 = .ok (.iconst 0, 1) := by decide +kernel
theorem d_X12_hop_2 : decode cX12_hop 2 = .ok (.invokevirtual 401, 3) := by decide +kernel
theorem d_X12_hop_5 : decode cX12_hop 5 = .ok (.aload_n 0, 1) := by decide +kernel
theorem d_X12_hop_6 : decode cX12_hop 6 = .ok (.iload_n 1, 1) := by decide +kernel
theorem d_X12_hop_7 : decode cX12_hop 7 = .ok (.iload_n 2, 1) := by decide +kernel
theorem d_X12_hop_8 : decode cX12_hop 8 = .ok (.lload_n 3, 1) := by decide +kernel
theorem d_X12_hop_9 : decode cX12_hop 9 = .ok (.iload_n 2, 1) := by decide +kernel
theorem d_X12_hop_10 : decode cX12_hop 10 = .ok (.invokestatic 404, 3) := by decide +kernel
theorem d_X12_hop_13 : decode cX12_hop 13 = .ok (.iconst 0, 1) := by decide +kernel
theorem d_X12_hop_14 : decode cX12_hop 14 = .ok (.invokevirtual 394, 3) := by decide +kernel
theorem d_X12_hop_17 : decode cX12_hop 17 = .ok (.aload_n 0, 1) := by decide +kernel
theorem d_X12_hop_18 : decode cX12_hop 18 = .ok (.iconst 0, 1) := by decide +kernel
theorem d_X12_hop_19 : decode cX12_hop 19 = .ok (.invokevirtual 407, 3) := by decide +kernel
theorem d_X12_hop_22 : decode cX12_hop 22 = .ok (.aload_n 0, 1) := by decide +kernel
theorem d_X12_hop_23 : decode cX12_hop 23 = .ok (.getfield 352, 3) := by decide +kernel
theorem d_X12_hop_26 : decode cX12_hop 26 = .ok (.lreturn, 1) := by decide +kernel
/-- TickPoolsModel.hop(IIJ)J -/
def f_X12_hop (p1 : Int32) (p2 : Int32) (p3 : Int64) (S : Mem) : Option (Int64 × Mem) := ((f_X12_keeps 0 S).bind fun q2 => ((f_X12_endOf p2 q2.2).bind fun q10 => ((f_X12_swaps p1 p2 p3 q10.1 0 q10.2).bind fun q14 => ((f_X12_laysBack 0 q14.2).bind fun q19 => (some ((gL q19.2 20 31), q19.2))))))
set_option maxRecDepth 20000 in
theorem c_X12_hop {l : Launch} {Γ : GG} (hI : Inj Γ) {p1 : Int32} {p2 : Int32} {p3 : Int64} {S : Mem} {q : Int64 × Mem} (hf : f_X12_hop p1 p2 p3 S = some q) : MM l Γ yX12_hop cX12_hop 5 (some .long) 7 206 [aR 20, aI p1, aI p2, aJ p3] S (some (aJ q.1)) q.2 := by
  refine met_of hI "TickPoolsModel" rfl (by decide +kernel) (Nat.le_of_ble_eq_true rfl) (fun X hX C hr => ?_)
  unfold f_X12_hop at hf
  show ZZ X Γ 5 _ S 0 [(0, aR 20), (1, aI p1), (2, aI p2), (3, aJ p3)] []
  refine z_aload_n (j := 0) C d_X12_hop_0 rfl ?_
  refine z_iconst (v := 0) C d_X12_hop_1 (by decide) ?_
  obtain ⟨q2, hF, hf⟩ := bd hf
  refine z_callV0 (rest := []) C [aI 0] rfl (by decide) rfl rfl k_X12_keeps tw_1670 ⟨by decide, by decide⟩ (Nat.le_of_ble_eq_true rfl) d_X12_hop_2 (c_X12_keeps C.inj hF) rfl ?_
  refine z_aload_n (j := 0) C d_X12_hop_5 rfl ?_
  refine z_iload_n (j := 1) C d_X12_hop_6 rfl ?_
  refine z_iload_n (j := 2) C d_X12_hop_7 rfl ?_
  refine z_lload_n (j := 3) C d_X12_hop_8 rfl ?_
  refine z_iload_n (j := 2) C d_X12_hop_9 rfl ?_
  obtain ⟨q10, hF, hf⟩ := bd hf
  refine z_callS1 (rest := [aJ p3, aI p2, aI p1, aR 20]) C [aI p2] k_X12_endOf tw_1674 ⟨by decide, by decide⟩ (Nat.le_of_ble_eq_true rfl) d_X12_hop_10 (c_X12_endOf C.inj hF) rfl ?_
  refine z_iconst (v := 0) C d_X12_hop_13 (by decide) ?_
  obtain ⟨q14, hF, hf⟩ := bd hf
  refine z_callV0 (rest := []) C [aI p1, aI p2, aJ p3, aI q10.1, aI 0] rfl (by decide) rfl rfl k_X12_swaps tw_1608 ⟨by decide, by decide⟩ (Nat.le_of_ble_eq_true rfl) d_X12_hop_14 (c_X12_swaps C.inj hF) rfl ?_
  refine z_aload_n (j := 0) C d_X12_hop_17 rfl ?_
  refine z_iconst (v := 0) C d_X12_hop_18 (by decide) ?_
  obtain ⟨q19, hF, hf⟩ := bd hf
  refine z_callV0 (rest := []) C [aI 0] rfl (by decide) rfl rfl k_X12_laysBack tw_1677 ⟨by decide, by decide⟩ (Nat.le_of_ble_eq_true rfl) d_X12_hop_19 (c_X12_laysBack C.inj hF) rfl ?_
  refine z_aload_n (j := 0) C d_X12_hop_22 rfl ?_
  refine zg_X12_gone C rfl tw_1242 d_X12_hop_23 ?_
  exact r_l C hr d_X12_hop_26 hf
theorem d_X12_along_0 : decode cX12_along 0 = .ok (.iload_n 2, 1) := by decide +kernel
theorem d_X12_along_1 : decode cX12_along 1 = .ok (.istore 6, 2) := by decide +kernel
theorem d_X12_along_3 : decode cX12_along 3 = .ok (.iconst 1, 1) := by decide +kernel
theorem d_X12_along_4 : decode cX12_along 4 = .ok (.iload_n 2, 1) := by decide +kernel
theorem d_X12_along_5 : decode cX12_along 5 = .ok (.ishl, 1) := by decide +kernel
theorem d_X12_along_6 : decode cX12_along 6 = .ok (.istore 7, 2) := by decide +kernel
theorem d_X12_along_8 : decode cX12_along 8 = .ok (.iconst 0, 1) := by decide +kernel
theorem d_X12_along_9 : decode cX12_along 9 = .ok (.istore 8, 2) := by decide +kernel
theorem d_X12_along_11 : decode cX12_along 11 = .ok (.lload 4, 2) := by decide +kernel
theorem d_X12_along_13 : decode cX12_along 13 = .ok (.lstore 9, 2) := by decide +kernel
theorem d_X12_along_15 : decode cX12_along 15 = .ok (.iconst 0, 1) := by decide +kernel
theorem d_X12_along_16 : decode cX12_along 16 = .ok (.istore 11, 2) := by decide +kernel
theorem d_X12_along_18 : decode cX12_along 18 = .ok (.iload 11, 2) := by decide +kernel
theorem d_X12_along_20 : decode cX12_along 20 = .ok (.iload_n 1, 1) := by decide +kernel
theorem d_X12_along_21 : decode cX12_along 21 = .ok (.invokestatic 530, 3) := by decide +kernel
theorem d_X12_along_24 : decode cX12_along 24 = .ok (.if_icmp .ge 167, 3) := by decide +kernel
theorem d_X12_along_27 : decode cX12_along 27 = .ok (.iload_n 1, 1) := by decide +kernel
theorem d_X12_along_28 : decode cX12_along 28 = .ok (.iload 11, 2) := by decide +kernel
theorem d_X12_along_30 : decode cX12_along 30 = .ok (.invokestatic 533, 3) := by decide +kernel
theorem d_X12_along_33 : decode cX12_along 33 = .ok (.istore 12, 2) := by decide +kernel
theorem d_X12_along_35 : decode cX12_along 35 = .ok (.iload 11, 2) := by decide +kernel
theorem d_X12_along_37 : decode cX12_along 37 = .ok (.iload_n 1, 1) := by decide +kernel
theorem d_X12_along_38 : decode cX12_along 38 = .ok (.invokestatic 530, 3) := by decide +kernel
theorem d_X12_along_41 : decode cX12_along 41 = .ok (.iconst 1, 1) := by decide +kernel
theorem d_X12_along_42 : decode cX12_along 42 = .ok (.isub, 1) := by decide +kernel
theorem d_X12_along_43 : decode cX12_along 43 = .ok (.if_icmp .ne 7, 3) := by decide +kernel
theorem d_X12_along_46 : decode cX12_along 46 = .ok (.iconst 1, 1) := by decide +kernel
theorem d_X12_along_47 : decode cX12_along 47 = .ok (.goto 4, 3) := by decide +kernel
theorem d_X12_along_50 : decode cX12_along 50 = .ok (.iconst 0, 1) := by decide +kernel
theorem d_X12_along_51 : decode cX12_along 51 = .ok (.istore 13, 2) := by decide +kernel
theorem d_X12_along_53 : decode cX12_along 53 = .ok (.iload 12, 2) := by decide +kernel
theorem d_X12_along_55 : decode cX12_along 55 = .ok (.ifCond .lt 23, 3) := by decide +kernel
theorem d_X12_along_58 : decode cX12_along 58 = .ok (.iload 12, 2) := by decide +kernel
theorem d_X12_along_60 : decode cX12_along 60 = .ok (.aload_n 0, 1) := by decide +kernel
theorem d_X12_along_61 : decode cX12_along 61 = .ok (.getfield 120, 3) := by decide +kernel
theorem d_X12_along_64 : decode cX12_along 64 = .ok (.if_icmp .ge 14, 3) := by decide +kernel
theorem d_X12_along_67 : decode cX12_along 67 = .ok (.iload 8, 2) := by decide +kernel
theorem d_X12_along_69 : decode cX12_along 69 = .ok (.iload 12, 2) := by decide +kernel
theorem d_X12_along_71 : decode cX12_along 71 = .ok (.ishr, 1) := by decide +kernel
theorem d_X12_along_72 : decode cX12_along 72 = .ok (.iconst 1, 1) := by decide +kernel
theorem d_X12_along_73 : decode cX12_along 73 = .ok (.iand, 1) := by decide +kernel
theorem d_X12_along_74 : decode cX12_along 74 = .ok (.iconst 1, 1) := by decide +kernel
theorem d_X12_along_75 : decode cX12_along 75 = .ok (.if_icmp .ne 5, 3) := by decide +kernel
theorem d_X12_along_78 : decode cX12_along 78 = .ok (.lconst 0, 1) := by decide +kernel
theorem d_X12_along_79 : decode cX12_along 79 = .ok (.lreturn, 1) := by decide +kernel
theorem d_X12_along_80 : decode cX12_along 80 = .ok (.aload_n 0, 1) := by decide +kernel
theorem d_X12_along_81 : decode cX12_along 81 = .ok (.iload 12, 2) := by decide +kernel
theorem d_X12_along_83 : decode cX12_along 83 = .ok (.iconst 0, 1) := by decide +kernel
theorem d_X12_along_84 : decode cX12_along 84 = .ok (.invokevirtual 256, 3) := by decide +kernel
theorem d_X12_along_87 : decode cX12_along 87 = .ok (.iload 6, 2) := by decide +kernel
theorem d_X12_along_89 : decode cX12_along 89 = .ok (.if_icmp .ne 7, 3) := by decide +kernel
theorem d_X12_along_92 : decode cX12_along 92 = .ok (.iconst 0, 1) := by decide +kernel
theorem d_X12_along_93 : decode cX12_along 93 = .ok (.goto 20, 3) := by decide +kernel
theorem d_X12_along_96 : decode cX12_along 96 = .ok (.aload_n 0, 1) := by decide +kernel
theorem d_X12_along_97 : decode cX12_along 97 = .ok (.iload 12, 2) := by decide +kernel
theorem d_X12_along_99 : decode cX12_along 99 = .ok (.iconst 1, 1) := by decide +kernel
theorem d_X12_along_100 : decode cX12_along 100 = .ok (.invokevirtual 256, 3) := by decide +kernel
theorem d_X12_along_103 : decode cX12_along 103 = .ok (.iload 6, 2) := by decide +kernel
theorem d_X12_along_105 : decode cX12_along 105 = .ok (.if_icmp .ne 7, 3) := by decide +kernel
theorem d_X12_along_108 : decode cX12_along 108 = .ok (.iconst 1, 1) := by decide +kernel
theorem d_X12_along_109 : decode cX12_along 109 = .ok (.goto 4, 3) := by decide +kernel
theorem d_X12_along_112 : decode cX12_along 112 = .ok (.iconst (-1), 1) := by decide +kernel
theorem d_X12_along_113 : decode cX12_along 113 = .ok (.istore 14, 2) := by decide +kernel
theorem d_X12_along_115 : decode cX12_along 115 = .ok (.iload 14, 2) := by decide +kernel
theorem d_X12_along_117 : decode cX12_along 117 = .ok (.ifCond .ge 5, 3) := by decide +kernel
theorem d_X12_along_120 : decode cX12_along 120 = .ok (.lconst 0, 1) := by decide +kernel
theorem d_X12_along_121 : decode cX12_along 121 = .ok (.lreturn, 1) := by decide +kernel
theorem d_X12_along_122 : decode cX12_along 122 = .ok (.aload_n 0, 1) := by decide +kernel
theorem d_X12_along_123 : decode cX12_along 123 = .ok (.iload 12, 2) := by decide +kernel
theorem d_X12_along_125 : decode cX12_along 125 = .ok (.iconst 1, 1) := by decide +kernel
theorem d_X12_along_126 : decode cX12_along 126 = .ok (.iload 14, 2) := by decide +kernel
theorem d_X12_along_128 : decode cX12_along 128 = .ok (.isub, 1) := by decide +kernel
theorem d_X12_along_129 : decode cX12_along 129 = .ok (.invokevirtual 256, 3) := by decide +kernel
theorem d_X12_along_132 : decode cX12_along 132 = .ok (.istore 6, 2) := by decide +kernel
theorem d_X12_along_134 : decode cX12_along 134 = .ok (.iload 13, 2) := by decide +kernel
theorem d_X12_along_136 : decode cX12_along 136 = .ok (.ifCond .eq 12, 3) := by decide +kernel
theorem d_X12_along_139 : decode cX12_along 139 = .ok (.iload 6, 2) := by decide +kernel
theorem d_X12_along_141 : decode cX12_along 141 = .ok (.iload_n 3, 1) := by decide +kernel
theorem d_X12_along_142 : decode cX12_along 142 = .ok (.if_icmp .eq 25, 3) := by decide +kernel
theorem d_X12_along_145 : decode cX12_along 145 = .ok (.goto 20, 3) := by decide +kernel
theorem d_X12_along_148 : decode cX12_along 148 = .ok (.iload 7, 2) := by decide +kernel
theorem d_X12_along_150 : decode cX12_along 150 = .ok (.iload 6, 2) := by decide +kernel
theorem d_X12_along_152 : decode cX12_along 152 = .ok (.ishr, 1) := by decide +kernel
theorem d_X12_along_153 : decode cX12_along 153 = .ok (.iconst 1, 1) := by decide +kernel
theorem d_X12_along_154 : decode cX12_along 154 = .ok (.iand, 1) := by decide +kernel
theorem d_X12_along_155 : decode cX12_along 155 = .ok (.iconst 1, 1) := by decide +kernel
theorem d_X12_along_156 : decode cX12_along 156 = .ok (.if_icmp .eq 9, 3) := by decide +kernel
theorem d_X12_along_159 : decode cX12_along 159 = .ok (.iload 6, 2) := by decide +kernel
theorem d_X12_along_161 : decode cX12_along 161 = .ok (.iload_n 3, 1) := by decide +kernel
theorem d_X12_along_162 : decode cX12_along 162 = .ok (.if_icmp .ne 5, 3) := by decide +kernel
theorem d_X12_along_165 : decode cX12_along 165 = .ok (.lconst 0, 1) := by decide +kernel
theorem d_X12_along_166 : decode cX12_along 166 = .ok (.lreturn, 1) := by decide +kernel
theorem d_X12_along_167 : decode cX12_along 167 = .ok (.iload 7, 2) := by decide +kernel
theorem d_X12_along_169 : decode cX12_along 169 = .ok (.iconst 1, 1) := by decide +kernel
theorem d_X12_along_170 : decode cX12_along 170 = .ok (.iload 6, 2) := by decide +kernel
theorem d_X12_along_172 : decode cX12_along 172 = .ok (.ishl, 1) := by decide +kernel
theorem d_X12_along_173 : decode cX12_along 173 = .ok (.ior, 1) := by decide +kernel
theorem d_X12_along_174 : decode cX12_along 174 = .ok (.istore 7, 2) := by decide +kernel
theorem d_X12_along_176 : decode cX12_along 176 = .ok (.iload 8, 2) := by decide +kernel
theorem d_X12_along_178 : decode cX12_along 178 = .ok (.iconst 1, 1) := by decide +kernel
theorem d_X12_along_179 : decode cX12_along 179 = .ok (.iload 12, 2) := by decide +kernel
theorem d_X12_along_181 : decode cX12_along 181 = .ok (.ishl, 1) := by decide +kernel
theorem d_X12_along_182 : decode cX12_along 182 = .ok (.ior, 1) := by decide +kernel
theorem d_X12_along_183 : decode cX12_along 183 = .ok (.istore 8, 2) := by decide +kernel
theorem d_X12_along_185 : decode cX12_along 185 = .ok (.iinc 11 1, 3) := by decide +kernel
theorem d_X12_along_188 : decode cX12_along 188 = .ok (.goto (-170), 3) := by decide +kernel
theorem d_X12_along_191 : decode cX12_along 191 = .ok (.iload_n 2, 1) := by decide +kernel
theorem d_X12_along_192 : decode cX12_along 192 = .ok (.istore 6, 2) := by decide +kernel
theorem d_X12_along_194 : decode cX12_along 194 = .ok (.iconst 0, 1) := by decide +kernel
theorem d_X12_along_195 : decode cX12_along 195 = .ok (.istore 11, 2) := by decide +kernel
theorem d_X12_along_197 : decode cX12_along 197 = .ok (.iload 11, 2) := by decide +kernel
theorem d_X12_along_199 : decode cX12_along 199 = .ok (.iload_n 1, 1) := by decide +kernel
theorem d_X12_along_200 : decode cX12_along 200 = .ok (.invokestatic 530, 3) := by decide +kernel
theorem d_X12_along_203 : decode cX12_along 203 = .ok (.if_icmp .ge 67, 3) := by decide +kernel
theorem d_X12_along_206 : decode cX12_along 206 = .ok (.lload 9, 2) := by decide +kernel
theorem d_X12_along_208 : decode cX12_along 208 = .ok (.lconst 0, 1) := by decide +kernel
theorem d_X12_along_209 : decode cX12_along 209 = .ok (.lcmp, 1) := by decide +kernel
theorem d_X12_along_210 : decode cX12_along 210 = .ok (.ifCond .le 60, 3) := by decide +kernel
theorem d_X12_along_213 : decode cX12_along 213 = .ok (.iload_n 1, 1) := by decide +kernel
theorem d_X12_along_214 : decode cX12_along 214 = .ok (.iload 11, 2) := by decide +kernel
theorem d_X12_along_216 : decode cX12_along 216 = .ok (.invokestatic 533, 3) := by decide +kernel
theorem d_X12_along_219 : decode cX12_along 219 = .ok (.istore 12, 2) := by decide +kernel
theorem d_X12_along_221 : decode cX12_along 221 = .ok (.aload_n 0, 1) := by decide +kernel
theorem d_X12_along_222 : decode cX12_along 222 = .ok (.iload 12, 2) := by decide +kernel
theorem d_X12_along_224 : decode cX12_along 224 = .ok (.iconst 0, 1) := by decide +kernel
theorem d_X12_along_225 : decode cX12_along 225 = .ok (.invokevirtual 256, 3) := by decide +kernel
theorem d_X12_along_228 : decode cX12_along 228 = .ok (.iload 6, 2) := by decide +kernel
theorem d_X12_along_230 : decode cX12_along 230 = .ok (.if_icmp .ne 7, 3) := by decide +kernel
theorem d_X12_along_233 : decode cX12_along 233 = .ok (.iconst 0, 1) := by decide +kernel
theorem d_X12_along_234 : decode cX12_along 234 = .ok (.goto 4, 3) := by decide +kernel
theorem d_X12_along_237 : decode cX12_along 237 = .ok (.iconst 1, 1) := by decide +kernel
theorem d_X12_along_238 : decode cX12_along 238 = .ok (.istore 13, 2) := by decide +kernel
theorem d_X12_along_240 : decode cX12_along 240 = .ok (.aload_n 0, 1) := by decide +kernel
theorem d_X12_along_241 : decode cX12_along 241 = .ok (.iload 12, 2) := by decide +kernel
theorem d_X12_along_243 : decode cX12_along 243 = .ok (.iload 13, 2) := by decide +kernel
theorem d_X12_along_245 : decode cX12_along 245 = .ok (.lload 9, 2) := by decide +kernel
theorem d_X12_along_247 : decode cX12_along 247 = .ok (.invokevirtual 536, 3) := by decide +kernel
theorem d_X12_along_250 : decode cX12_along 250 = .ok (.lstore 9, 2) := by decide +kernel
theorem d_X12_along_252 : decode cX12_along 252 = .ok (.aload_n 0, 1) := by decide +kernel
theorem d_X12_along_253 : decode cX12_along 253 = .ok (.iload 12, 2) := by decide +kernel
theorem d_X12_along_255 : decode cX12_along 255 = .ok (.iconst 1, 1) := by decide +kernel
theorem d_X12_along_256 : decode cX12_along 256 = .ok (.iload 13, 2) := by decide +kernel
theorem d_X12_along_258 : decode cX12_along 258 = .ok (.isub, 1) := by decide +kernel
theorem d_X12_along_259 : decode cX12_along 259 = .ok (.invokevirtual 256, 3) := by decide +kernel
theorem d_X12_along_262 : decode cX12_along 262 = .ok (.istore 6, 2) := by decide +kernel
theorem d_X12_along_264 : decode cX12_along 264 = .ok (.iinc 11 1, 3) := by decide +kernel
theorem d_X12_along_267 : decode cX12_along 267 = .ok (.goto (-70), 3) := by decide +kernel
theorem d_X12_along_270 : decode cX12_along 270 = .ok (.lload 9, 2) := by decide +kernel
theorem d_X12_along_272 : decode cX12_along 272 = .ok (.lreturn, 1) := by decide +kernel
def f_X12_along_78 (S : Mem) : Option (Int64 × Mem) := (some (0, S))
set_option maxRecDepth 20000 in
theorem t_X12_along_78 {X : MC} {Γ : GG} (C : CX X Γ cX12_along 15 "TickPoolsModel" 8 230) (hr : X.2.2.2.2.2.2.2.2.1.sig.returnType = some .long) {q : Int64 × Mem} (S : Mem) (hf : f_X12_along_78 S = some q) : ZZ X Γ 15 (QQ X Γ (some (aJ q.1)) q.2) S 78 [] [] := by
  unfold f_X12_along_78 at hf
  refine z_lconst (v := 0) C d_X12_along_78 (by decide) ?_
  exact r_l C hr d_X12_along_79 hf
def f_X12_along_165 (S : Mem) : Option (Int64 × Mem) := (some (0, S))
set_option maxRecDepth 20000 in
theorem t_X12_along_165 {X : MC} {Γ : GG} (C : CX X Γ cX12_along 15 "TickPoolsModel" 8 230) (hr : X.2.2.2.2.2.2.2.2.1.sig.returnType = some .long) {q : Int64 × Mem} (S : Mem) (hf : f_X12_along_165 S = some q) : ZZ X Γ 15 (QQ X Γ (some (aJ q.1)) q.2) S 165 [] [] := by
  unfold f_X12_along_165 at hf
  refine z_lconst (v := 0) C d_X12_along_165 (by decide) ?_
  exact r_l C hr d_X12_along_166 hf
def f_X12_along_185 (k18 : Int32 → Int32 → Int32 → Int32 → Int32 → Int32 → Int64 → Int32 → Mem → Option (Int64 × Mem)) (v1 : Int32) (v2 : Int32) (v3 : Int32) (v6 : Int32) (v7 : Int32) (v8 : Int32) (v9 : Int64) (v11 : Int32) (S : Mem) : Option (Int64 × Mem) := (k18 v1 v2 v3 v6 v7 v8 v9 (v11 + 1) S)
set_option maxRecDepth 20000 in
theorem t_X12_along_185 {X : MC} {Γ : GG} (C : CX X Γ cX12_along 15 "TickPoolsModel" 8 230) (hr : X.2.2.2.2.2.2.2.2.1.sig.returnType = some .long) {k18 : Int32 → Int32 → Int32 → Int32 → Int32 → Int32 → Int64 → Int32 → Mem → Option (Int64 × Mem)} {q : Int64 × Mem} (hk18 : ∀ (v1 : Int32) (v2 : Int32) (v3 : Int32) (v6 : Int32) (v7 : Int32) (v8 : Int32) (v9 : Int64) (v11 : Int32) (S : Mem), k18 v1 v2 v3 v6 v7 v8 v9 v11 S = some q → ZZ X Γ 15 (QQ X Γ (some (aJ q.1)) q.2) S 18 [(0, aR 20), (1, aI v1), (2, aI v2), (3, aI v3), (6, aI v6), (7, aI v7), (8, aI v8), (9, aJ v9), (11, aI v11)] []) (v1 : Int32) (v2 : Int32) (v3 : Int32) (v6 : Int32) (v7 : Int32) (v8 : Int32) (v9 : Int64) (v11 : Int32) (S : Mem) (hf : f_X12_along_185 k18 v1 v2 v3 v6 v7 v8 v9 v11 S = some q) : ZZ X Γ 15 (QQ X Γ (some (aJ q.1)) q.2) S 185 [(0, aR 20), (1, aI v1), (2, aI v2), (3, aI v3), (6, aI v6), (7, aI v7), (8, aI v8), (9, aJ v9), (11, aI v11)] [] := by
  unfold f_X12_along_185 at hf
  refine z_iinc (j := 8) (v := (v11 + 1)) (lv' := [(11, aI (v11 + 1)), (0, aR 20), (1, aI v1), (2, aI v2), (3, aI v3), (6, aI v6), (7, aI v7), (8, aI v8), (9, aJ v9)]) C d_X12_along_185 rfl rfl (by decide) rfl ?_
  refine z_goto (tgt := 18) C d_X12_along_188 (by decide) ?_
  exact z_sub [1, 2, 3, 4, 5, 6, 7, 8, 0] rfl (hk18 _ _ _ _ _ _ _ _ _ hf)
def f_X12_along_176 (k18 : Int32 → Int32 → Int32 → Int32 → Int32 → Int32 → Int64 → Int32 → Mem → Option (Int64 × Mem)) (v1 : Int32) (v2 : Int32) (v3 : Int32) (v6 : Int32) (v7 : Int32) (v8 : Int32) (v9 : Int64) (v11 : Int32) (v12 : Int32) (S : Mem) : Option (Int64 × Mem) := (f_X12_along_185 k18 v1 v2 v3 v6 v7 (v8 ||| (1 <<< (v12 &&& 31))) v9 v11 S)
set_option maxRecDepth 20000 in
theorem t_X12_along_176 {X : MC} {Γ : GG} (C : CX X Γ cX12_along 15 "TickPoolsModel" 8 230) (hr : X.2.2.2.2.2.2.2.2.1.sig.returnType = some .long) {k18 : Int32 → Int32 → Int32 → Int32 → Int32 → Int32 → Int64 → Int32 → Mem → Option (Int64 × Mem)} {q : Int64 × Mem} (hk18 : ∀ (v1 : Int32) (v2 : Int32) (v3 : Int32) (v6 : Int32) (v7 : Int32) (v8 : Int32) (v9 : Int64) (v11 : Int32) (S : Mem), k18 v1 v2 v3 v6 v7 v8 v9 v11 S = some q → ZZ X Γ 15 (QQ X Γ (some (aJ q.1)) q.2) S 18 [(0, aR 20), (1, aI v1), (2, aI v2), (3, aI v3), (6, aI v6), (7, aI v7), (8, aI v8), (9, aJ v9), (11, aI v11)] []) (v1 : Int32) (v2 : Int32) (v3 : Int32) (v6 : Int32) (v7 : Int32) (v8 : Int32) (v9 : Int64) (v11 : Int32) (v12 : Int32) (S : Mem) (hf : f_X12_along_176 k18 v1 v2 v3 v6 v7 v8 v9 v11 v12 S = some q) : ZZ X Γ 15 (QQ X Γ (some (aJ q.1)) q.2) S 176 [(0, aR 20), (1, aI v1), (2, aI v2), (3, aI v3), (6, aI v6), (7, aI v7), (8, aI v8), (9, aJ v9), (11, aI v11), (12, aI v12)] [] := by
  unfold f_X12_along_176 at hf
  refine z_iload (j := 6) C d_X12_along_176 rfl ?_
  refine z_iconst (v := 1) C d_X12_along_178 (by decide) ?_
  refine z_iload (j := 9) C d_X12_along_179 rfl ?_
  refine z_ishl C d_X12_along_181 ?_
  refine z_ior C d_X12_along_182 ?_
  refine z_istore (lv' := [(8, aI (v8 ||| (1 <<< (v12 &&& 31)))), (0, aR 20), (1, aI v1), (2, aI v2), (3, aI v3), (6, aI v6), (7, aI v7), (9, aJ v9), (11, aI v11), (12, aI v12)]) C d_X12_along_183 (by decide) rfl ?_
  exact z_sub [1, 2, 3, 4, 5, 6, 0, 7, 8] rfl (t_X12_along_185 C hr hk18 _ _ _ _ _ _ _ _ _ hf)
def f_X12_along_167 (k18 : Int32 → Int32 → Int32 → Int32 → Int32 → Int32 → Int64 → Int32 → Mem → Option (Int64 × Mem)) (v1 : Int32) (v2 : Int32) (v3 : Int32) (v6 : Int32) (v7 : Int32) (v8 : Int32) (v9 : Int64) (v11 : Int32) (v12 : Int32) (S : Mem) : Option (Int64 × Mem) := (f_X12_along_176 k18 v1 v2 v3 v6 (v7 ||| (1 <<< (v6 &&& 31))) v8 v9 v11 v12 S)
set_option maxRecDepth 20000 in
theorem t_X12_along_167 {X : MC} {Γ : GG} (C : CX X Γ cX12_along 15 "TickPoolsModel" 8 230) (hr : X.2.2.2.2.2.2.2.2.1.sig.returnType = some .long) {k18 : Int32 → Int32 → Int32 → Int32 → Int32 → Int32 → Int64 → Int32 → Mem → Option (Int64 × Mem)} {q : Int64 × Mem} (hk18 : ∀ (v1 : Int32) (v2 : Int32) (v3 : Int32) (v6 : Int32) (v7 : Int32) (v8 : Int32) (v9 : Int64) (v11 : Int32) (S : Mem), k18 v1 v2 v3 v6 v7 v8 v9 v11 S = some q → ZZ X Γ 15 (QQ X Γ (some (aJ q.1)) q.2) S 18 [(0, aR 20), (1, aI v1), (2, aI v2), (3, aI v3), (6, aI v6), (7, aI v7), (8, aI v8), (9, aJ v9), (11, aI v11)] []) (v1 : Int32) (v2 : Int32) (v3 : Int32) (v6 : Int32) (v7 : Int32) (v8 : Int32) (v9 : Int64) (v11 : Int32) (v12 : Int32) (S : Mem) (hf : f_X12_along_167 k18 v1 v2 v3 v6 v7 v8 v9 v11 v12 S = some q) : ZZ X Γ 15 (QQ X Γ (some (aJ q.1)) q.2) S 167 [(0, aR 20), (1, aI v1), (2, aI v2), (3, aI v3), (6, aI v6), (7, aI v7), (8, aI v8), (9, aJ v9), (11, aI v11), (12, aI v12)] [] := by
  unfold f_X12_along_167 at hf
  refine z_iload (j := 5) C d_X12_along_167 rfl ?_
  refine z_iconst (v := 1) C d_X12_along_169 (by decide) ?_
  refine z_iload (j := 4) C d_X12_along_170 rfl ?_
  refine z_ishl C d_X12_along_172 ?_
  refine z_ior C d_X12_along_173 ?_
  refine z_istore (lv' := [(7, aI (v7 ||| (1 <<< (v6 &&& 31)))), (0, aR 20), (1, aI v1), (2, aI v2), (3, aI v3), (6, aI v6), (8, aI v8), (9, aJ v9), (11, aI v11), (12, aI v12)]) C d_X12_along_174 (by decide) rfl ?_
  exact z_sub [1, 2, 3, 4, 5, 0, 6, 7, 8, 9] rfl (t_X12_along_176 C hr hk18 _ _ _ _ _ _ _ _ _ _ hf)
def f_X12_along_113 (k18 : Int32 → Int32 → Int32 → Int32 → Int32 → Int32 → Int64 → Int32 → Mem → Option (Int64 × Mem)) (v1 : Int32) (v2 : Int32) (v3 : Int32) (v7 : Int32) (v8 : Int32) (v9 : Int64) (v11 : Int32) (v12 : Int32) (v13 : Int32) (s0 : Int32) (S : Mem) : Option (Int64 × Mem) := (if 0 ≤ s0 then ((f_X12_thingOf v12 (1 - s0) S).bind fun q129 => (if v13 = 0 then (if ((v7 >>> (q129.1 &&& 31)) &&& 1) = 1 then (f_X12_along_165  q129.2) else (if q129.1 = v3 then (f_X12_along_165  q129.2) else (f_X12_along_167 k18 v1 v2 v3 q129.1 v7 v8 v9 v11 v12 q129.2))) else (if q129.1 = v3 then (f_X12_along_167 k18 v1 v2 v3 q129.1 v7 v8 v9 v11 v12 q129.2) else (f_X12_along_165  q129.2)))) else (some (0, S)))
set_option maxRecDepth 20000 in
theorem t_X12_along_113 {X : MC} {Γ : GG} (C : CX X Γ cX12_along 15 "TickPoolsModel" 8 230) (hr : X.2.2.2.2.2.2.2.2.1.sig.returnType = some .long) {k18 : Int32 → Int32 → Int32 → Int32 → Int32 → Int32 → Int64 → Int32 → Mem → Option (Int64 × Mem)} {q : Int64 × Mem} (hk18 : ∀ (v1 : Int32) (v2 : Int32) (v3 : Int32) (v6 : Int32) (v7 : Int32) (v8 : Int32) (v9 : Int64) (v11 : Int32) (S : Mem), k18 v1 v2 v3 v6 v7 v8 v9 v11 S = some q → ZZ X Γ 15 (QQ X Γ (some (aJ q.1)) q.2) S 18 [(0, aR 20), (1, aI v1), (2, aI v2), (3, aI v3), (6, aI v6), (7, aI v7), (8, aI v8), (9, aJ v9), (11, aI v11)] []) (v1 : Int32) (v2 : Int32) (v3 : Int32) (v7 : Int32) (v8 : Int32) (v9 : Int64) (v11 : Int32) (v12 : Int32) (v13 : Int32) (s0 : Int32) (S : Mem) (hf : f_X12_along_113 k18 v1 v2 v3 v7 v8 v9 v11 v12 v13 s0 S = some q) : ZZ X Γ 15 (QQ X Γ (some (aJ q.1)) q.2) S 113 [(0, aR 20), (1, aI v1), (2, aI v2), (3, aI v3), (7, aI v7), (8, aI v8), (9, aJ v9), (11, aI v11), (12, aI v12), (13, aI v13)] [aI s0] := by
  unfold f_X12_along_113 at hf
  refine z_istore (lv' := [(14, aI s0), (0, aR 20), (1, aI v1), (2, aI v2), (3, aI v3), (7, aI v7), (8, aI v8), (9, aJ v9), (11, aI v11), (12, aI v12), (13, aI v13)]) C d_X12_along_113 (by decide) rfl ?_
  refine z_iload (j := 0) C d_X12_along_115 rfl ?_
  refine z_if_ge (tgt := 122) C d_X12_along_117 (by decide) hf (fun c117 hf => ?_) (fun c117 hf => ?_)
  · refine z_aload_n (j := 1) C d_X12_along_122 rfl ?_
    refine z_iload (j := 9) C d_X12_along_123 rfl ?_
    refine z_iconst (v := 1) C d_X12_along_125 (by decide) ?_
    refine z_iload (j := 0) C d_X12_along_126 rfl ?_
    refine z_isub C d_X12_along_128 ?_
    obtain ⟨q129, hF, hf⟩ := bd hf
    refine z_callV1 (rest := []) C [aI v12, aI (1 - s0)] rfl (by decide) rfl rfl k_X12_thingOf tw_1517 ⟨by decide, by decide⟩ (Nat.le_of_ble_eq_true rfl) d_X12_along_129 (c_X12_thingOf C.inj hF) rfl ?_
    refine z_istore (lv' := [(6, aI q129.1), (14, aI s0), (0, aR 20), (1, aI v1), (2, aI v2), (3, aI v3), (7, aI v7), (8, aI v8), (9, aJ v9), (11, aI v11), (12, aI v12), (13, aI v13)]) C d_X12_along_132 (by decide) rfl ?_
    refine z_iload (j := 11) C d_X12_along_134 rfl ?_
    refine z_if_eq (tgt := 148) C d_X12_along_136 (by decide) hf (fun c136 hf => ?_) (fun c136 hf => ?_)
    · refine z_iload (j := 6) C d_X12_along_148 rfl ?_
      refine z_iload (j := 0) C d_X12_along_150 rfl ?_
      refine z_ishr C d_X12_along_152 ?_
      refine z_iconst (v := 1) C d_X12_along_153 (by decide) ?_
      refine z_iand C d_X12_along_154 ?_
      refine z_iconst (v := 1) C d_X12_along_155 (by decide) ?_
      refine z_icmp_eq (tgt := 165) C d_X12_along_156 (by decide) hf (fun c156 hf => ?_) (fun c156 hf => ?_)
      · exact z_sub [] rfl (t_X12_along_165 C hr  _ hf)
      · refine z_iload (j := 0) C d_X12_along_159 rfl ?_
        refine z_iload_n (j := 5) C d_X12_along_161 rfl ?_
        refine z_icmp_ne (tgt := 167) C d_X12_along_162 (by decide) hf (fun c162 hf => ?_) (fun c162 hf => ?_)
        · exact z_sub [2, 3, 4, 5, 0, 6, 7, 8, 9, 10] rfl (t_X12_along_167 C hr hk18 _ _ _ _ _ _ _ _ _ _ hf)
        · exact z_sub [] rfl (t_X12_along_165 C hr  _ hf)
    · refine z_iload (j := 0) C d_X12_along_139 rfl ?_
      refine z_iload_n (j := 5) C d_X12_along_141 rfl ?_
      refine z_icmp_eq (tgt := 167) C d_X12_along_142 (by decide) hf (fun c142 hf => ?_) (fun c142 hf => ?_)
      · exact z_sub [2, 3, 4, 5, 0, 6, 7, 8, 9, 10] rfl (t_X12_along_167 C hr hk18 _ _ _ _ _ _ _ _ _ _ hf)
      · refine z_goto (tgt := 165) C d_X12_along_145 (by decide) ?_
        exact z_sub [] rfl (t_X12_along_165 C hr  _ hf)
  · refine z_lconst (v := 0) C d_X12_along_120 (by decide) ?_
    exact r_l C hr d_X12_along_121 hf
def f_X12_along_51 (k18 : Int32 → Int32 → Int32 → Int32 → Int32 → Int32 → Int64 → Int32 → Mem → Option (Int64 × Mem)) (v1 : Int32) (v2 : Int32) (v3 : Int32) (v6 : Int32) (v7 : Int32) (v8 : Int32) (v9 : Int64) (v11 : Int32) (v12 : Int32) (s0 : Int32) (S : Mem) : Option (Int64 × Mem) := (if v12 < 0 then (f_X12_along_78  S) else (if (gI S 20 3) ≤ v12 then (f_X12_along_78  S) else (if ((v8 >>> (v12 &&& 31)) &&& 1) = 1 then (f_X12_along_78  S) else ((f_X12_thingOf v12 0 S).bind fun q84 => (if q84.1 = v6 then (f_X12_along_113 k18 v1 v2 v3 v7 v8 v9 v11 v12 s0 0 q84.2) else ((f_X12_thingOf v12 1 q84.2).bind fun q100 => (if q100.1 = v6 then (f_X12_along_113 k18 v1 v2 v3 v7 v8 v9 v11 v12 s0 1 q100.2) else (f_X12_along_113 k18 v1 v2 v3 v7 v8 v9 v11 v12 s0 (-1) q100.2))))))))
set_option maxRecDepth 20000 in
theorem t_X12_along_51 {X : MC} {Γ : GG} (C : CX X Γ cX12_along 15 "TickPoolsModel" 8 230) (hr : X.2.2.2.2.2.2.2.2.1.sig.returnType = some .long) {k18 : Int32 → Int32 → Int32 → Int32 → Int32 → Int32 → Int64 → Int32 → Mem → Option (Int64 × Mem)} {q : Int64 × Mem} (hk18 : ∀ (v1 : Int32) (v2 : Int32) (v3 : Int32) (v6 : Int32) (v7 : Int32) (v8 : Int32) (v9 : Int64) (v11 : Int32) (S : Mem), k18 v1 v2 v3 v6 v7 v8 v9 v11 S = some q → ZZ X Γ 15 (QQ X Γ (some (aJ q.1)) q.2) S 18 [(0, aR 20), (1, aI v1), (2, aI v2), (3, aI v3), (6, aI v6), (7, aI v7), (8, aI v8), (9, aJ v9), (11, aI v11)] []) (v1 : Int32) (v2 : Int32) (v3 : Int32) (v6 : Int32) (v7 : Int32) (v8 : Int32) (v9 : Int64) (v11 : Int32) (v12 : Int32) (s0 : Int32) (S : Mem) (hf : f_X12_along_51 k18 v1 v2 v3 v6 v7 v8 v9 v11 v12 s0 S = some q) : ZZ X Γ 15 (QQ X Γ (some (aJ q.1)) q.2) S 51 [(0, aR 20), (1, aI v1), (2, aI v2), (3, aI v3), (6, aI v6), (7, aI v7), (8, aI v8), (9, aJ v9), (11, aI v11), (12, aI v12)] [aI s0] := by
  unfold f_X12_along_51 at hf
  refine z_istore (lv' := [(13, aI s0), (0, aR 20), (1, aI v1), (2, aI v2), (3, aI v3), (6, aI v6), (7, aI v7), (8, aI v8), (9, aJ v9), (11, aI v11), (12, aI v12)]) C d_X12_along_51 (by decide) rfl ?_
  refine z_iload (j := 10) C d_X12_along_53 rfl ?_
  refine z_if_lt (tgt := 78) C d_X12_along_55 (by decide) hf (fun c55 hf => ?_) (fun c55 hf => ?_)
  · exact z_sub [] rfl (t_X12_along_78 C hr  _ hf)
  · refine z_iload (j := 10) C d_X12_along_58 rfl ?_
    refine z_aload_n (j := 1) C d_X12_along_60 rfl ?_
    refine zg_X12_pools C rfl tw_1214 d_X12_along_61 ?_
    refine z_icmp_ge (tgt := 78) C d_X12_along_64 (by decide) hf (fun c64 hf => ?_) (fun c64 hf => ?_)
    · exact z_sub [] rfl (t_X12_along_78 C hr  _ hf)
    · refine z_iload (j := 7) C d_X12_along_67 rfl ?_
      refine z_iload (j := 10) C d_X12_along_69 rfl ?_
      refine z_ishr C d_X12_along_71 ?_
      refine z_iconst (v := 1) C d_X12_along_72 (by decide) ?_
      refine z_iand C d_X12_along_73 ?_
      refine z_iconst (v := 1) C d_X12_along_74 (by decide) ?_
      refine z_icmp_ne (tgt := 80) C d_X12_along_75 (by decide) hf (fun c75 hf => ?_) (fun c75 hf => ?_)
      · refine z_aload_n (j := 1) C d_X12_along_80 rfl ?_
        refine z_iload (j := 10) C d_X12_along_81 rfl ?_
        refine z_iconst (v := 0) C d_X12_along_83 (by decide) ?_
        obtain ⟨q84, hF, hf⟩ := bd hf
        refine z_callV1 (rest := []) C [aI v12, aI 0] rfl (by decide) rfl rfl k_X12_thingOf tw_1517 ⟨by decide, by decide⟩ (Nat.le_of_ble_eq_true rfl) d_X12_along_84 (c_X12_thingOf C.inj hF) rfl ?_
        refine z_iload (j := 5) C d_X12_along_87 rfl ?_
        refine z_icmp_ne (tgt := 96) C d_X12_along_89 (by decide) hf (fun c89 hf => ?_) (fun c89 hf => ?_)
        · refine z_aload_n (j := 1) C d_X12_along_96 rfl ?_
          refine z_iload (j := 10) C d_X12_along_97 rfl ?_
          refine z_iconst (v := 1) C d_X12_along_99 (by decide) ?_
          obtain ⟨q100, hF, hf⟩ := bd hf
          refine z_callV1 (rest := []) C [aI v12, aI 1] rfl (by decide) rfl rfl k_X12_thingOf tw_1517 ⟨by decide, by decide⟩ (Nat.le_of_ble_eq_true rfl) d_X12_along_100 (c_X12_thingOf C.inj hF) rfl ?_
          refine z_iload (j := 5) C d_X12_along_103 rfl ?_
          refine z_icmp_ne (tgt := 112) C d_X12_along_105 (by decide) hf (fun c105 hf => ?_) (fun c105 hf => ?_)
          · refine z_iconst (v := (-1)) C d_X12_along_112 (by decide) ?_
            exact z_sub [1, 2, 3, 4, 6, 7, 8, 9, 10, 0] rfl (t_X12_along_113 C hr hk18 _ _ _ _ _ _ _ _ _ _ _ hf)
          · refine z_iconst (v := 1) C d_X12_along_108 (by decide) ?_
            refine z_goto (tgt := 113) C d_X12_along_109 (by decide) ?_
            exact z_sub [1, 2, 3, 4, 6, 7, 8, 9, 10, 0] rfl (t_X12_along_113 C hr hk18 _ _ _ _ _ _ _ _ _ _ _ hf)
        · refine z_iconst (v := 0) C d_X12_along_92 (by decide) ?_
          refine z_goto (tgt := 113) C d_X12_along_93 (by decide) ?_
          exact z_sub [1, 2, 3, 4, 6, 7, 8, 9, 10, 0] rfl (t_X12_along_113 C hr hk18 _ _ _ _ _ _ _ _ _ _ _ hf)
      · exact z_sub [] rfl (t_X12_along_78 C hr  _ hf)
def f_X12_along_238 (k197 : Int32 → Int32 → Int64 → Int32 → Mem → Option (Int64 × Mem)) (v1 : Int32) (v9 : Int64) (v11 : Int32) (v12 : Int32) (s0 : Int32) (S : Mem) : Option (Int64 × Mem) := ((f_X12_hop v12 s0 v9 S).bind fun q247 => ((f_X12_thingOf v12 (1 - s0) q247.2).bind fun q259 => (k197 v1 q259.1 q247.1 (v11 + 1) q259.2)))
set_option maxRecDepth 20000 in
theorem t_X12_along_238 {X : MC} {Γ : GG} (C : CX X Γ cX12_along 15 "TickPoolsModel" 8 230) (hr : X.2.2.2.2.2.2.2.2.1.sig.returnType = some .long) {k197 : Int32 → Int32 → Int64 → Int32 → Mem → Option (Int64 × Mem)} {q : Int64 × Mem} (hk197 : ∀ (v1 : Int32) (v6 : Int32) (v9 : Int64) (v11 : Int32) (S : Mem), k197 v1 v6 v9 v11 S = some q → ZZ X Γ 15 (QQ X Γ (some (aJ q.1)) q.2) S 197 [(0, aR 20), (1, aI v1), (6, aI v6), (9, aJ v9), (11, aI v11)] []) (v1 : Int32) (v9 : Int64) (v11 : Int32) (v12 : Int32) (s0 : Int32) (S : Mem) (hf : f_X12_along_238 k197 v1 v9 v11 v12 s0 S = some q) : ZZ X Γ 15 (QQ X Γ (some (aJ q.1)) q.2) S 238 [(0, aR 20), (1, aI v1), (9, aJ v9), (11, aI v11), (12, aI v12)] [aI s0] := by
  unfold f_X12_along_238 at hf
  refine z_istore (lv' := [(13, aI s0), (0, aR 20), (1, aI v1), (9, aJ v9), (11, aI v11), (12, aI v12)]) C d_X12_along_238 (by decide) rfl ?_
  refine z_aload_n (j := 1) C d_X12_along_240 rfl ?_
  refine z_iload (j := 5) C d_X12_along_241 rfl ?_
  refine z_iload (j := 0) C d_X12_along_243 rfl ?_
  refine z_lload (j := 3) C d_X12_along_245 rfl ?_
  obtain ⟨q247, hF, hf⟩ := bd hf
  refine z_callV1 (rest := []) C [aI v12, aI s0, aJ v9] rfl (by decide) rfl rfl k_X12_hop tw_1850 ⟨by decide, by decide⟩ (Nat.le_of_ble_eq_true rfl) d_X12_along_247 (c_X12_hop C.inj hF) rfl ?_
  refine z_lstore (lv' := [(9, aJ q247.1), (13, aI s0), (0, aR 20), (1, aI v1), (11, aI v11), (12, aI v12)]) C d_X12_along_250 (by decide) rfl ?_
  refine z_aload_n (j := 2) C d_X12_along_252 rfl ?_
  refine z_iload (j := 5) C d_X12_along_253 rfl ?_
  refine z_iconst (v := 1) C d_X12_along_255 (by decide) ?_
  refine z_iload (j := 1) C d_X12_along_256 rfl ?_
  refine z_isub C d_X12_along_258 ?_
  obtain ⟨q259, hF, hf⟩ := bd hf
  refine z_callV1 (rest := []) C [aI v12, aI (1 - s0)] rfl (by decide) rfl rfl k_X12_thingOf tw_1517 ⟨by decide, by decide⟩ (Nat.le_of_ble_eq_true rfl) d_X12_along_259 (c_X12_thingOf C.inj hF) rfl ?_
  refine z_istore (lv' := [(6, aI q259.1), (9, aJ q247.1), (13, aI s0), (0, aR 20), (1, aI v1), (11, aI v11), (12, aI v12)]) C d_X12_along_262 (by decide) rfl ?_
  refine z_iinc (j := 5) (v := (v11 + 1)) (lv' := [(11, aI (v11 + 1)), (6, aI q259.1), (9, aJ q247.1), (13, aI s0), (0, aR 20), (1, aI v1), (12, aI v12)]) C d_X12_along_264 rfl rfl (by decide) rfl ?_
  refine z_goto (tgt := 197) C d_X12_along_267 (by decide) ?_
  exact z_sub [4, 5, 1, 2, 0] rfl (hk197 _ _ _ _ _ hf)
def f_X12_along_270 (v9 : Int64) (S : Mem) : Option (Int64 × Mem) := (some (v9, S))
set_option maxRecDepth 20000 in
theorem t_X12_along_270 {X : MC} {Γ : GG} (C : CX X Γ cX12_along 15 "TickPoolsModel" 8 230) (hr : X.2.2.2.2.2.2.2.2.1.sig.returnType = some .long) {q : Int64 × Mem} (v9 : Int64) (S : Mem) (hf : f_X12_along_270 v9 S = some q) : ZZ X Γ 15 (QQ X Γ (some (aJ q.1)) q.2) S 270 [(9, aJ v9)] [] := by
  unfold f_X12_along_270 at hf
  refine z_lload (j := 0) C d_X12_along_270 rfl ?_
  exact r_l C hr d_X12_along_272 hf
def f_X12_along_197B (k197 : Int32 → Int32 → Int64 → Int32 → Mem → Option (Int64 × Mem)) (v1 : Int32) (v6 : Int32) (v9 : Int64) (v11 : Int32) (S : Mem) : Option (Int64 × Mem) := ((f_X12_lengthOf v1 S).bind fun q200 => (if q200.1 ≤ v11 then (f_X12_along_270  v9 q200.2) else (if v9 ≤ 0 then (f_X12_along_270  v9 q200.2) else ((f_X12_poolIn v1 v11 q200.2).bind fun q216 => ((f_X12_thingOf q216.1 0 q216.2).bind fun q225 => (if q225.1 = v6 then (f_X12_along_238 k197 v1 v9 v11 q216.1 0 q225.2) else (f_X12_along_238 k197 v1 v9 v11 q216.1 1 q225.2)))))))
set_option maxRecDepth 20000 in
theorem t_X12_along_197B {X : MC} {Γ : GG} (C : CX X Γ cX12_along 15 "TickPoolsModel" 8 230) (hr : X.2.2.2.2.2.2.2.2.1.sig.returnType = some .long) {k197 : Int32 → Int32 → Int64 → Int32 → Mem → Option (Int64 × Mem)} {q : Int64 × Mem} (hk197 : ∀ (v1 : Int32) (v6 : Int32) (v9 : Int64) (v11 : Int32) (S : Mem), k197 v1 v6 v9 v11 S = some q → ZZ X Γ 15 (QQ X Γ (some (aJ q.1)) q.2) S 197 [(0, aR 20), (1, aI v1), (6, aI v6), (9, aJ v9), (11, aI v11)] []) (v1 : Int32) (v6 : Int32) (v9 : Int64) (v11 : Int32) (S : Mem) (hf : f_X12_along_197B k197 v1 v6 v9 v11 S = some q) : ZZ X Γ 15 (QQ X Γ (some (aJ q.1)) q.2) S 197 [(0, aR 20), (1, aI v1), (6, aI v6), (9, aJ v9), (11, aI v11)] [] := by
  unfold f_X12_along_197B at hf
  refine z_iload (j := 4) C d_X12_along_197 rfl ?_
  refine z_iload_n (j := 1) C d_X12_along_199 rfl ?_
  obtain ⟨q200, hF, hf⟩ := bd hf
  refine z_callS1 (rest := [aI v11]) C [aI v1] k_X12_lengthOf tw_1844 ⟨by decide, by decide⟩ (Nat.le_of_ble_eq_true rfl) d_X12_along_200 (c_X12_lengthOf C.inj hF) rfl ?_
  refine z_icmp_ge (tgt := 270) C d_X12_along_203 (by decide) hf (fun c203 hf => ?_) (fun c203 hf => ?_)
  · exact z_sub [3] rfl (t_X12_along_270 C hr  _ _ hf)
  · refine z_lload (j := 3) C d_X12_along_206 rfl ?_
    refine z_lconst (v := 0) C d_X12_along_208 (by decide) ?_
    refine z_lle (tgt := 270) C d_X12_along_209 d_X12_along_210 (by decide) hf (fun c209 hf => ?_) (fun c209 hf => ?_)
    · exact z_sub [3] rfl (t_X12_along_270 C hr  _ _ hf)
    · refine z_iload_n (j := 1) C d_X12_along_213 rfl ?_
      refine z_iload (j := 4) C d_X12_along_214 rfl ?_
      obtain ⟨q216, hF, hf⟩ := bd hf
      refine z_callS1 (rest := []) C [aI v1, aI v11] k_X12_poolIn tw_1847 ⟨by decide, by decide⟩ (Nat.le_of_ble_eq_true rfl) d_X12_along_216 (c_X12_poolIn C.inj hF) rfl ?_
      refine z_istore (lv' := [(12, aI q216.1), (0, aR 20), (1, aI v1), (6, aI v6), (9, aJ v9), (11, aI v11)]) C d_X12_along_219 (by decide) rfl ?_
      refine z_aload_n (j := 1) C d_X12_along_221 rfl ?_
      refine z_iload (j := 0) C d_X12_along_222 rfl ?_
      refine z_iconst (v := 0) C d_X12_along_224 (by decide) ?_
      obtain ⟨q225, hF, hf⟩ := bd hf
      refine z_callV1 (rest := []) C [aI q216.1, aI 0] rfl (by decide) rfl rfl k_X12_thingOf tw_1517 ⟨by decide, by decide⟩ (Nat.le_of_ble_eq_true rfl) d_X12_along_225 (c_X12_thingOf C.inj hF) rfl ?_
      refine z_iload (j := 3) C d_X12_along_228 rfl ?_
      refine z_icmp_ne (tgt := 237) C d_X12_along_230 (by decide) hf (fun c230 hf => ?_) (fun c230 hf => ?_)
      · refine z_iconst (v := 1) C d_X12_along_237 (by decide) ?_
        exact z_sub [1, 2, 4, 5, 0] rfl (t_X12_along_238 C hr hk197 _ _ _ _ _ _ hf)
      · refine z_iconst (v := 0) C d_X12_along_233 (by decide) ?_
        refine z_goto (tgt := 238) C d_X12_along_234 (by decide) ?_
        exact z_sub [1, 2, 4, 5, 0] rfl (t_X12_along_238 C hr hk197 _ _ _ _ _ _ hf)
def f_X12_along_197 : Nat → Int32 → Int32 → Int64 → Int32 → Mem → Option (Int64 × Mem)
  | 0 => fun _ _ _ _ _ => none
  | n + 1 => f_X12_along_197B (f_X12_along_197 n)
theorem t_X12_along_197 {X : MC} {Γ : GG} (C : CX X Γ cX12_along 15 "TickPoolsModel" 8 230) (hr : X.2.2.2.2.2.2.2.2.1.sig.returnType = some .long) {q : Int64 × Mem} : ∀ (n : Nat) (v1 : Int32) (v6 : Int32) (v9 : Int64) (v11 : Int32) (S : Mem) (hf : f_X12_along_197 n v1 v6 v9 v11 S = some q), ZZ X Γ 15 (QQ X Γ (some (aJ q.1)) q.2) S 197 [(0, aR 20), (1, aI v1), (6, aI v6), (9, aJ v9), (11, aI v11)] []
  | 0, _, _, _, _, _, hf => nomatch (show (none : Option (Int64 × Mem)) = some q from hf)
  | n + 1, v1, v6, v9, v11, S, hf => t_X12_along_197B C hr (t_X12_along_197 C hr n) v1 v6 v9 v11 S hf
def f_X12_along_18B (k18 : Int32 → Int32 → Int32 → Int32 → Int32 → Int32 → Int64 → Int32 → Mem → Option (Int64 × Mem)) (v1 : Int32) (v2 : Int32) (v3 : Int32) (v6 : Int32) (v7 : Int32) (v8 : Int32) (v9 : Int64) (v11 : Int32) (S : Mem) : Option (Int64 × Mem) := ((f_X12_lengthOf v1 S).bind fun q21 => (if q21.1 ≤ v11 then (f_X12_along_197  100000 v1 v2 v9 0 q21.2) else ((f_X12_poolIn v1 v11 q21.2).bind fun q30 => ((f_X12_lengthOf v1 q30.2).bind fun q38 => (if v11 = (q38.1 - 1) then (f_X12_along_51 k18 v1 v2 v3 v6 v7 v8 v9 v11 q30.1 1 q38.2) else (f_X12_along_51 k18 v1 v2 v3 v6 v7 v8 v9 v11 q30.1 0 q38.2))))))
set_option maxRecDepth 20000 in
theorem t_X12_along_18B {X : MC} {Γ : GG} (C : CX X Γ cX12_along 15 "TickPoolsModel" 8 230) (hr : X.2.2.2.2.2.2.2.2.1.sig.returnType = some .long) {k18 : Int32 → Int32 → Int32 → Int32 → Int32 → Int32 → Int64 → Int32 → Mem → Option (Int64 × Mem)} {q : Int64 × Mem} (hk18 : ∀ (v1 : Int32) (v2 : Int32) (v3 : Int32) (v6 : Int32) (v7 : Int32) (v8 : Int32) (v9 : Int64) (v11 : Int32) (S : Mem), k18 v1 v2 v3 v6 v7 v8 v9 v11 S = some q → ZZ X Γ 15 (QQ X Γ (some (aJ q.1)) q.2) S 18 [(0, aR 20), (1, aI v1), (2, aI v2), (3, aI v3), (6, aI v6), (7, aI v7), (8, aI v8), (9, aJ v9), (11, aI v11)] []) (v1 : Int32) (v2 : Int32) (v3 : Int32) (v6 : Int32) (v7 : Int32) (v8 : Int32) (v9 : Int64) (v11 : Int32) (S : Mem) (hf : f_X12_along_18B k18 v1 v2 v3 v6 v7 v8 v9 v11 S = some q) : ZZ X Γ 15 (QQ X Γ (some (aJ q.1)) q.2) S 18 [(0, aR 20), (1, aI v1), (2, aI v2), (3, aI v3), (6, aI v6), (7, aI v7), (8, aI v8), (9, aJ v9), (11, aI v11)] [] := by
  unfold f_X12_along_18B at hf
  refine z_iload (j := 8) C d_X12_along_18 rfl ?_
  refine z_iload_n (j := 1) C d_X12_along_20 rfl ?_
  obtain ⟨q21, hF, hf⟩ := bd hf
  refine z_callS1 (rest := [aI v11]) C [aI v1] k_X12_lengthOf tw_1844 ⟨by decide, by decide⟩ (Nat.le_of_ble_eq_true rfl) d_X12_along_21 (c_X12_lengthOf C.inj hF) rfl ?_
  refine z_icmp_ge (tgt := 191) C d_X12_along_24 (by decide) hf (fun c24 hf => ?_) (fun c24 hf => ?_)
  · refine z_iload_n (j := 2) C d_X12_along_191 rfl ?_
    refine z_istore (lv' := [(6, aI v2), (0, aR 20), (1, aI v1), (2, aI v2), (3, aI v3), (7, aI v7), (8, aI v8), (9, aJ v9), (11, aI v11)]) C d_X12_along_192 (by decide) rfl ?_
    refine z_iconst (v := 0) C d_X12_along_194 (by decide) ?_
    refine z_istore (lv' := [(11, aI 0), (6, aI v2), (0, aR 20), (1, aI v1), (2, aI v2), (3, aI v3), (7, aI v7), (8, aI v8), (9, aJ v9)]) C d_X12_along_195 (by decide) rfl ?_
    exact z_sub [2, 3, 1, 8, 0] rfl (t_X12_along_197 C hr  100000 _ _ _ _ _ hf)
  · refine z_iload_n (j := 1) C d_X12_along_27 rfl ?_
    refine z_iload (j := 8) C d_X12_along_28 rfl ?_
    obtain ⟨q30, hF, hf⟩ := bd hf
    refine z_callS1 (rest := []) C [aI v1, aI v11] k_X12_poolIn tw_1847 ⟨by decide, by decide⟩ (Nat.le_of_ble_eq_true rfl) d_X12_along_30 (c_X12_poolIn C.inj hF) rfl ?_
    refine z_istore (lv' := [(12, aI q30.1), (0, aR 20), (1, aI v1), (2, aI v2), (3, aI v3), (6, aI v6), (7, aI v7), (8, aI v8), (9, aJ v9), (11, aI v11)]) C d_X12_along_33 (by decide) rfl ?_
    refine z_iload (j := 9) C d_X12_along_35 rfl ?_
    refine z_iload_n (j := 2) C d_X12_along_37 rfl ?_
    obtain ⟨q38, hF, hf⟩ := bd hf
    refine z_callS1 (rest := [aI v11]) C [aI v1] k_X12_lengthOf tw_1844 ⟨by decide, by decide⟩ (Nat.le_of_ble_eq_true rfl) d_X12_along_38 (c_X12_lengthOf C.inj hF) rfl ?_
    refine z_iconst (v := 1) C d_X12_along_41 (by decide) ?_
    refine z_isub C d_X12_along_42 ?_
    refine z_icmp_ne (tgt := 50) C d_X12_along_43 (by decide) hf (fun c43 hf => ?_) (fun c43 hf => ?_)
    · refine z_iconst (v := 0) C d_X12_along_50 (by decide) ?_
      exact z_sub [1, 2, 3, 4, 5, 6, 7, 8, 9, 0] rfl (t_X12_along_51 C hr hk18 _ _ _ _ _ _ _ _ _ _ _ hf)
    · refine z_iconst (v := 1) C d_X12_along_46 (by decide) ?_
      refine z_goto (tgt := 51) C d_X12_along_47 (by decide) ?_
      exact z_sub [1, 2, 3, 4, 5, 6, 7, 8, 9, 0] rfl (t_X12_along_51 C hr hk18 _ _ _ _ _ _ _ _ _ _ _ hf)
def f_X12_along_18 : Nat → Int32 → Int32 → Int32 → Int32 → Int32 → Int32 → Int64 → Int32 → Mem → Option (Int64 × Mem)
  | 0 => fun _ _ _ _ _ _ _ _ _ => none
  | n + 1 => f_X12_along_18B (f_X12_along_18 n)
theorem t_X12_along_18 {X : MC} {Γ : GG} (C : CX X Γ cX12_along 15 "TickPoolsModel" 8 230) (hr : X.2.2.2.2.2.2.2.2.1.sig.returnType = some .long) {q : Int64 × Mem} : ∀ (n : Nat) (v1 : Int32) (v2 : Int32) (v3 : Int32) (v6 : Int32) (v7 : Int32) (v8 : Int32) (v9 : Int64) (v11 : Int32) (S : Mem) (hf : f_X12_along_18 n v1 v2 v3 v6 v7 v8 v9 v11 S = some q), ZZ X Γ 15 (QQ X Γ (some (aJ q.1)) q.2) S 18 [(0, aR 20), (1, aI v1), (2, aI v2), (3, aI v3), (6, aI v6), (7, aI v7), (8, aI v8), (9, aJ v9), (11, aI v11)] []
  | 0, _, _, _, _, _, _, _, _, _, hf => nomatch (show (none : Option (Int64 × Mem)) = some q from hf)
  | n + 1, v1, v2, v3, v6, v7, v8, v9, v11, S, hf => t_X12_along_18B C hr (t_X12_along_18 C hr n) v1 v2 v3 v6 v7 v8 v9 v11 S hf
def f_X12_along_8 (v1 : Int32) (v2 : Int32) (v3 : Int32) (v4 : Int64) (v6 : Int32) (v7 : Int32) (S : Mem) : Option (Int64 × Mem) := (f_X12_along_18  100000 v1 v2 v3 v6 v7 0 v4 0 S)
set_option maxRecDepth 20000 in
theorem t_X12_along_8 {X : MC} {Γ : GG} (C : CX X Γ cX12_along 15 "TickPoolsModel" 8 230) (hr : X.2.2.2.2.2.2.2.2.1.sig.returnType = some .long) {q : Int64 × Mem} (v1 : Int32) (v2 : Int32) (v3 : Int32) (v4 : Int64) (v6 : Int32) (v7 : Int32) (S : Mem) (hf : f_X12_along_8 v1 v2 v3 v4 v6 v7 S = some q) : ZZ X Γ 15 (QQ X Γ (some (aJ q.1)) q.2) S 8 [(0, aR 20), (1, aI v1), (2, aI v2), (3, aI v3), (4, aJ v4), (6, aI v6), (7, aI v7)] [] := by
  unfold f_X12_along_8 at hf
  refine z_iconst (v := 0) C d_X12_along_8 (by decide) ?_
  refine z_istore (lv' := [(8, aI 0), (0, aR 20), (1, aI v1), (2, aI v2), (3, aI v3), (4, aJ v4), (6, aI v6), (7, aI v7)]) C d_X12_along_9 (by decide) rfl ?_
  refine z_lload (j := 5) C d_X12_along_11 rfl ?_
  refine z_lstore (lv' := [(9, aJ v4), (8, aI 0), (0, aR 20), (1, aI v1), (2, aI v2), (3, aI v3), (4, aJ v4), (6, aI v6), (7, aI v7)]) C d_X12_along_13 (by decide) rfl ?_
  refine z_iconst (v := 0) C d_X12_along_15 (by decide) ?_
  refine z_istore (lv' := [(11, aI 0), (9, aJ v4), (8, aI 0), (0, aR 20), (1, aI v1), (2, aI v2), (3, aI v3), (4, aJ v4), (6, aI v6), (7, aI v7)]) C d_X12_along_16 (by decide) rfl ?_
  exact z_sub [3, 4, 5, 6, 8, 9, 2, 1, 0] rfl (t_X12_along_18 C hr  100000 _ _ _ _ _ _ _ _ _ hf)
/-- TickPoolsModel.along(IIIJ)J -/
def f_X12_along (p1 : Int32) (p2 : Int32) (p3 : Int32) (p4 : Int64) (S : Mem) : Option (Int64 × Mem) := (f_X12_along_8  p1 p2 p3 p4 p2 (1 <<< (p2 &&& 31)) S)
set_option maxRecDepth 20000 in
theorem c_X12_along {l : Launch} {Γ : GG} (hI : Inj Γ) {p1 : Int32} {p2 : Int32} {p3 : Int32} {p4 : Int64} {S : Mem} {q : Int64 × Mem} (hf : f_X12_along p1 p2 p3 p4 S = some q) : MM l Γ yX12_along cX12_along 15 (some .long) 8 230 [aR 20, aI p1, aI p2, aI p3, aJ p4] S (some (aJ q.1)) q.2 := by
  refine met_of hI "TickPoolsModel" rfl (by decide +kernel) (Nat.le_of_ble_eq_true rfl) (fun X hX C hr => ?_)
  unfold f_X12_along at hf
  show ZZ X Γ 15 _ S 0 [(0, aR 20), (1, aI p1), (2, aI p2), (3, aI p3), (4, aJ p4)] []
  refine z_iload_n (j := 2) C d_X12_along_0 rfl ?_
  refine z_istore (lv' := [(6, aI p2), (0, aR 20), (1, aI p1), (2, aI p2), (3, aI p3), (4, aJ p4)]) C d_X12_along_1 (by decide) rfl ?_
  refine z_iconst (v := 1) C d_X12_along_3 (by decide) ?_
  refine z_iload_n (j := 3) C d_X12_along_4 rfl ?_
  refine z_ishl C d_X12_along_5 ?_
  refine z_istore (lv' := [(7, aI (1 <<< (p2 &&& 31))), (6, aI p2), (0, aR 20), (1, aI p1), (2, aI p2), (3, aI p3), (4, aJ p4)]) C d_X12_along_6 (by decide) rfl ?_
  exact z_sub [2, 3, 4, 5, 6, 1, 0] rfl (t_X12_along_8 C hr  _ _ _ _ _ _ _ hf)
theorem d_X12_routes_0 : decode cX12_routes 0 = .ok (.aload_n 0, 1) := by decide +kernel
theorem d_X12_routes_1 : decode cX12_routes 1 = .ok (.lconst 0, 1) := by decide +kernel
theorem d_X12_routes_2 : decode cX12_routes 2 = .ok (.putfield 539, 3) := by decide +kernel
theorem d_X12_routes_5 : decode cX12_routes 5 = .ok (.aload_n 0, 1) := by decide +kernel
theorem d_X12_routes_6 : decode cX12_routes 6 = .ok (.iconst 0, 1) := by decide +kernel
theorem d_X12_routes_7 : decode cX12_routes 7 = .ok (.putfield 542, 3) := by decide +kernel
theorem d_X12_routes_10 : decode cX12_routes 10 = .ok (.iconst 1, 1) := by decide +kernel
theorem d_X12_routes_11 : decode cX12_routes 11 = .ok (.istore 5, 2) := by decide +kernel
theorem d_X12_routes_13 : decode cX12_routes 13 = .ok (.iload 5, 2) := by decide +kernel
theorem d_X12_routes_15 : decode cX12_routes 15 = .ok (.sipush 216, 3) := by decide +kernel
theorem d_X12_routes_18 : decode cX12_routes 18 = .ok (.if_icmp .ge 45, 3) := by decide +kernel
theorem d_X12_routes_21 : decode cX12_routes 21 = .ok (.aload_n 0, 1) := by decide +kernel
theorem d_X12_routes_22 : decode cX12_routes 22 = .ok (.iload 5, 2) := by decide +kernel
theorem d_X12_routes_24 : decode cX12_routes 24 = .ok (.iload_n 1, 1) := by decide +kernel
theorem d_X12_routes_25 : decode cX12_routes 25 = .ok (.iload_n 2, 1) := by decide +kernel
theorem d_X12_routes_26 : decode cX12_routes 26 = .ok (.lload_n 3, 1) := by decide +kernel
theorem d_X12_routes_27 : decode cX12_routes 27 = .ok (.invokevirtual 545, 3) := by decide +kernel
theorem d_X12_routes_30 : decode cX12_routes 30 = .ok (.lstore 6, 2) := by decide +kernel
theorem d_X12_routes_32 : decode cX12_routes 32 = .ok (.lload 6, 2) := by decide +kernel
theorem d_X12_routes_34 : decode cX12_routes 34 = .ok (.aload_n 0, 1) := by decide +kernel
theorem d_X12_routes_35 : decode cX12_routes 35 = .ok (.getfield 539, 3) := by decide +kernel
theorem d_X12_routes_38 : decode cX12_routes 38 = .ok (.lcmp, 1) := by decide +kernel
theorem d_X12_routes_39 : decode cX12_routes 39 = .ok (.ifCond .gt 6, 3) := by decide +kernel
theorem d_X12_routes_42 : decode cX12_routes 42 = .ok (.goto 15, 3) := by decide +kernel
theorem d_X12_routes_45 : decode cX12_routes 45 = .ok (.aload_n 0, 1) := by decide +kernel
theorem d_X12_routes_46 : decode cX12_routes 46 = .ok (.lload 6, 2) := by decide +kernel
theorem d_X12_routes_48 : decode cX12_routes 48 = .ok (.putfield 539, 3) := by decide +kernel
theorem d_X12_routes_51 : decode cX12_routes 51 = .ok (.aload_n 0, 1) := by decide +kernel
theorem d_X12_routes_52 : decode cX12_routes 52 = .ok (.iload 5, 2) := by decide +kernel
theorem d_X12_routes_54 : decode cX12_routes 54 = .ok (.putfield 542, 3) := by decide +kernel
theorem d_X12_routes_57 : decode cX12_routes 57 = .ok (.iinc 5 1, 3) := by decide +kernel
theorem d_X12_routes_60 : decode cX12_routes 60 = .ok (.goto (-47), 3) := by decide +kernel
theorem d_X12_routes_63 : decode cX12_routes 63 = .ok (.return_, 1) := by decide +kernel
def f_X12_routes_57 (k13 : Int32 → Int32 → Int64 → Int32 → Mem → Option (Unit × Mem)) (v1 : Int32) (v2 : Int32) (v3 : Int64) (v5 : Int32) (S : Mem) : Option (Unit × Mem) := (k13 v1 v2 v3 (v5 + 1) S)
set_option maxRecDepth 20000 in
theorem t_X12_routes_57 {X : MC} {Γ : GG} (C : CX X Γ cX12_routes 8 "TickPoolsModel" 9 264) (hr : X.2.2.2.2.2.2.2.2.1.sig.returnType = none) {k13 : Int32 → Int32 → Int64 → Int32 → Mem → Option (Unit × Mem)} {q : Unit × Mem} (hk13 : ∀ (v1 : Int32) (v2 : Int32) (v3 : Int64) (v5 : Int32) (S : Mem), k13 v1 v2 v3 v5 S = some q → ZZ X Γ 8 (QQ X Γ none q.2) S 13 [(0, aR 20), (1, aI v1), (2, aI v2), (3, aJ v3), (5, aI v5)] []) (v1 : Int32) (v2 : Int32) (v3 : Int64) (v5 : Int32) (S : Mem) (hf : f_X12_routes_57 k13 v1 v2 v3 v5 S = some q) : ZZ X Γ 8 (QQ X Γ none q.2) S 57 [(0, aR 20), (1, aI v1), (2, aI v2), (3, aJ v3), (5, aI v5)] [] := by
  unfold f_X12_routes_57 at hf
  refine z_iinc (j := 4) (v := (v5 + 1)) (lv' := [(5, aI (v5 + 1)), (0, aR 20), (1, aI v1), (2, aI v2), (3, aJ v3)]) C d_X12_routes_57 rfl rfl (by decide) rfl ?_
  refine z_goto (tgt := 13) C d_X12_routes_60 (by decide) ?_
  exact z_sub [1, 2, 3, 4, 0] rfl (hk13 _ _ _ _ _ hf)
def f_X12_routes_13B (k13 : Int32 → Int32 → Int64 → Int32 → Mem → Option (Unit × Mem)) (v1 : Int32) (v2 : Int32) (v3 : Int64) (v5 : Int32) (S : Mem) : Option (Unit × Mem) := (if 216 ≤ v5 then (some ((), S)) else ((f_X12_along v5 v1 v2 v3 S).bind fun q27 => (if (gL q27.2 20 51) < q27.1 then (f_X12_routes_57 k13 v1 v2 v3 v5 (sI (sL q27.2 20 51 q27.1) 20 52 v5)) else (f_X12_routes_57 k13 v1 v2 v3 v5 q27.2))))
set_option maxRecDepth 20000 in
theorem t_X12_routes_13B {X : MC} {Γ : GG} (C : CX X Γ cX12_routes 8 "TickPoolsModel" 9 264) (hr : X.2.2.2.2.2.2.2.2.1.sig.returnType = none) {k13 : Int32 → Int32 → Int64 → Int32 → Mem → Option (Unit × Mem)} {q : Unit × Mem} (hk13 : ∀ (v1 : Int32) (v2 : Int32) (v3 : Int64) (v5 : Int32) (S : Mem), k13 v1 v2 v3 v5 S = some q → ZZ X Γ 8 (QQ X Γ none q.2) S 13 [(0, aR 20), (1, aI v1), (2, aI v2), (3, aJ v3), (5, aI v5)] []) (v1 : Int32) (v2 : Int32) (v3 : Int64) (v5 : Int32) (S : Mem) (hf : f_X12_routes_13B k13 v1 v2 v3 v5 S = some q) : ZZ X Γ 8 (QQ X Γ none q.2) S 13 [(0, aR 20), (1, aI v1), (2, aI v2), (3, aJ v3), (5, aI v5)] [] := by
  unfold f_X12_routes_13B at hf
  refine z_iload (j := 4) C d_X12_routes_13 rfl ?_
  refine z_sipush (v := 216) C d_X12_routes_15 (by decide) ?_
  refine z_icmp_ge (tgt := 63) C d_X12_routes_18 (by decide) hf (fun c18 hf => ?_) (fun c18 hf => ?_)
  · exact r_v C hr d_X12_routes_63 hf
  · refine z_aload_n (j := 0) C d_X12_routes_21 rfl ?_
    refine z_iload (j := 4) C d_X12_routes_22 rfl ?_
    refine z_iload_n (j := 1) C d_X12_routes_24 rfl ?_
    refine z_iload_n (j := 2) C d_X12_routes_25 rfl ?_
    refine z_lload_n (j := 3) C d_X12_routes_26 rfl ?_
    obtain ⟨q27, hF, hf⟩ := bd hf
    refine z_callV1 (rest := []) C [aI v5, aI v1, aI v2, aJ v3] rfl (by decide) rfl rfl k_X12_along tw_1840 ⟨by decide, by decide⟩ (Nat.le_of_ble_eq_true rfl) d_X12_routes_27 (c_X12_along C.inj hF) rfl ?_
    refine z_lstore (lv' := [(6, aJ q27.1), (0, aR 20), (1, aI v1), (2, aI v2), (3, aJ v3), (5, aI v5)]) C d_X12_routes_30 (by decide) rfl ?_
    refine z_lload (j := 0) C d_X12_routes_32 rfl ?_
    refine z_aload_n (j := 1) C d_X12_routes_34 rfl ?_
    refine zg_X12_best C rfl tw_1262 d_X12_routes_35 ?_
    refine z_lgt (tgt := 45) C d_X12_routes_38 d_X12_routes_39 (by decide) hf (fun c38 hf => ?_) (fun c38 hf => ?_)
    · refine z_aload_n (j := 1) C d_X12_routes_45 rfl ?_
      refine z_lload (j := 0) C d_X12_routes_46 rfl ?_
      refine zp_X12_best C rfl tw_1262 d_X12_routes_48 ?_
      refine z_aload_n (j := 1) C d_X12_routes_51 rfl ?_
      refine z_iload (j := 5) C d_X12_routes_52 rfl ?_
      refine zp_X12_bestRow C rfl tw_1263 d_X12_routes_54 ?_
      exact z_sub [1, 2, 3, 4, 5] rfl (t_X12_routes_57 C hr hk13 _ _ _ _ _ hf)
    · refine z_goto (tgt := 57) C d_X12_routes_42 (by decide) ?_
      exact z_sub [1, 2, 3, 4, 5] rfl (t_X12_routes_57 C hr hk13 _ _ _ _ _ hf)
def f_X12_routes_13 : Nat → Int32 → Int32 → Int64 → Int32 → Mem → Option (Unit × Mem)
  | 0 => fun _ _ _ _ _ => none
  | n + 1 => f_X12_routes_13B (f_X12_routes_13 n)
theorem t_X12_routes_13 {X : MC} {Γ : GG} (C : CX X Γ cX12_routes 8 "TickPoolsModel" 9 264) (hr : X.2.2.2.2.2.2.2.2.1.sig.returnType = none) {q : Unit × Mem} : ∀ (n : Nat) (v1 : Int32) (v2 : Int32) (v3 : Int64) (v5 : Int32) (S : Mem) (hf : f_X12_routes_13 n v1 v2 v3 v5 S = some q), ZZ X Γ 8 (QQ X Γ none q.2) S 13 [(0, aR 20), (1, aI v1), (2, aI v2), (3, aJ v3), (5, aI v5)] []
  | 0, _, _, _, _, _, hf => nomatch (show (none : Option (Unit × Mem)) = some q from hf)
  | n + 1, v1, v2, v3, v5, S, hf => t_X12_routes_13B C hr (t_X12_routes_13 C hr n) v1 v2 v3 v5 S hf
/-- TickPoolsModel.routes(IIJ)V -/
def f_X12_routes (p1 : Int32) (p2 : Int32) (p3 : Int64) (S : Mem) : Option (Unit × Mem) := (f_X12_routes_13  100000 p1 p2 p3 1 (sI (sL S 20 51 0) 20 52 0))
set_option maxRecDepth 20000 in
theorem c_X12_routes {l : Launch} {Γ : GG} (hI : Inj Γ) {p1 : Int32} {p2 : Int32} {p3 : Int64} {S : Mem} {q : Unit × Mem} (hf : f_X12_routes p1 p2 p3 S = some q) : MM l Γ yX12_routes cX12_routes 8 (none) 9 264 [aR 20, aI p1, aI p2, aJ p3] S none q.2 := by
  refine met_of hI "TickPoolsModel" rfl (by decide +kernel) (Nat.le_of_ble_eq_true rfl) (fun X hX C hr => ?_)
  unfold f_X12_routes at hf
  show ZZ X Γ 8 _ S 0 [(0, aR 20), (1, aI p1), (2, aI p2), (3, aJ p3)] []
  refine z_aload_n (j := 0) C d_X12_routes_0 rfl ?_
  refine z_lconst (v := 0) C d_X12_routes_1 (by decide) ?_
  refine zp_X12_best C rfl tw_1262 d_X12_routes_2 ?_
  refine z_aload_n (j := 0) C d_X12_routes_5 rfl ?_
  refine z_iconst (v := 0) C d_X12_routes_6 (by decide) ?_
  refine zp_X12_bestRow C rfl tw_1263 d_X12_routes_7 ?_
  refine z_iconst (v := 1) C d_X12_routes_10 (by decide) ?_
  refine z_istore (lv' := [(5, aI 1), (0, aR 20), (1, aI p1), (2, aI p2), (3, aJ p3)]) C d_X12_routes_11 (by decide) rfl ?_
  exact z_sub [1, 2, 3, 4, 0] rfl (t_X12_routes_13 C hr  100000 _ _ _ _ _ hf)
theorem d_X12_isWay_0 : decode cX12_isWay 0 = .ok (.aload_n 0, 1) := by decide +kernel
theorem d_X12_isWay_1 : decode cX12_isWay 1 = .ok (.iload_n 1, 1) := by decide +kernel
theorem d_X12_isWay_2 : decode cX12_isWay 2 = .ok (.invokevirtual 475, 3) := by decide +kernel
theorem d_X12_isWay_5 : decode cX12_isWay 5 = .ok (.ifCond .eq 32, 3) := by decide +kernel
theorem d_X12_isWay_8 : decode cX12_isWay 8 = .ok (.aload_n 0, 1) := by decide +kernel
theorem d_X12_isWay_9 : decode cX12_isWay 9 = .ok (.iload_n 2, 1) := by decide +kernel
theorem d_X12_isWay_10 : decode cX12_isWay 10 = .ok (.invokevirtual 475, 3) := by decide +kernel
theorem d_X12_isWay_13 : decode cX12_isWay 13 = .ok (.ifCond .eq 24, 3) := by decide +kernel
theorem d_X12_isWay_16 : decode cX12_isWay 16 = .ok (.iload_n 1, 1) := by decide +kernel
theorem d_X12_isWay_17 : decode cX12_isWay 17 = .ok (.iload_n 2, 1) := by decide +kernel
theorem d_X12_isWay_18 : decode cX12_isWay 18 = .ok (.if_icmp .eq 19, 3) := by decide +kernel
theorem d_X12_isWay_21 : decode cX12_isWay 21 = .ok (.iload_n 3, 1) := by decide +kernel
theorem d_X12_isWay_22 : decode cX12_isWay 22 = .ok (.i2l, 1) := by decide +kernel
theorem d_X12_isWay_23 : decode cX12_isWay 23 = .ok (.lconst 1, 1) := by decide +kernel
theorem d_X12_isWay_24 : decode cX12_isWay 24 = .ok (.ldc2_w 386, 3) := by decide +kernel
theorem d_X12_isWay_27 : decode cX12_isWay 27 = .ok (.invokestatic 137, 3) := by decide +kernel
theorem d_X12_isWay_30 : decode cX12_isWay 30 = .ok (.ifCond .eq 7, 3) := by decide +kernel
theorem d_X12_isWay_33 : decode cX12_isWay 33 = .ok (.iconst 1, 1) := by decide +kernel
theorem d_X12_isWay_34 : decode cX12_isWay 34 = .ok (.goto 4, 3) := by decide +kernel
theorem d_X12_isWay_37 : decode cX12_isWay 37 = .ok (.iconst 0, 1) := by decide +kernel
theorem d_X12_isWay_38 : decode cX12_isWay 38 = .ok (.ireturn, 1) := by decide +kernel
def f_X12_isWay_38 (s0 : Int32) (S : Mem) : Option (Int32 × Mem) := (if isB s0 = true then (some (s0, S)) else none)
set_option maxRecDepth 20000 in
theorem t_X12_isWay_38 {X : MC} {Γ : GG} (C : CX X Γ cX12_isWay 4 "TickPoolsModel" 1 25) (hr : X.2.2.2.2.2.2.2.2.1.sig.returnType = some .boolean) {q : Int32 × Mem} (s0 : Int32) (S : Mem) (hf : f_X12_isWay_38 s0 S = some q) : ZZ X Γ 4 (QQ X Γ (some (aI q.1)) q.2) S 38 [] [aI s0] := by
  unfold f_X12_isWay_38 at hf
  obtain ⟨hb38_0, hf⟩ := gd hf
  exact r_i C hr (isB_nar hb38_0).1 d_X12_isWay_38 hf
def f_X12_isWay_37 (S : Mem) : Option (Int32 × Mem) := (f_X12_isWay_38  0 S)
set_option maxRecDepth 20000 in
theorem t_X12_isWay_37 {X : MC} {Γ : GG} (C : CX X Γ cX12_isWay 4 "TickPoolsModel" 1 25) (hr : X.2.2.2.2.2.2.2.2.1.sig.returnType = some .boolean) {q : Int32 × Mem} (S : Mem) (hf : f_X12_isWay_37 S = some q) : ZZ X Γ 4 (QQ X Γ (some (aI q.1)) q.2) S 37 [] [] := by
  unfold f_X12_isWay_37 at hf
  refine z_iconst (v := 0) C d_X12_isWay_37 (by decide) ?_
  exact z_sub [] rfl (t_X12_isWay_38 C hr  _ _ hf)
/-- TickPoolsModel.isWay(III)Z -/
def f_X12_isWay (p1 : Int32) (p2 : Int32) (p3 : Int32) (S : Mem) : Option (Int32 × Mem) := ((f_X12_isThing p1 S).bind fun q2 => (if q2.1 = 0 then (f_X12_isWay_37  q2.2) else ((f_X12_isThing p2 q2.2).bind fun q10 => (if q10.1 = 0 then (f_X12_isWay_37  q10.2) else (if p1 = p2 then (f_X12_isWay_37  q10.2) else ((f_X12_isIn (p3.toInt64) 1 9999999 q10.2).bind fun q27 => (if q27.1 = 0 then (f_X12_isWay_37  q27.2) else (f_X12_isWay_38  1 q27.2))))))))
set_option maxRecDepth 20000 in
theorem c_X12_isWay {l : Launch} {Γ : GG} (hI : Inj Γ) {p1 : Int32} {p2 : Int32} {p3 : Int32} {S : Mem} {q : Int32 × Mem} (hf : f_X12_isWay p1 p2 p3 S = some q) : MM l Γ yX12_isWay cX12_isWay 4 (some .boolean) 1 25 [aR 20, aI p1, aI p2, aI p3] S (some (aI q.1)) q.2 := by
  refine met_of hI "TickPoolsModel" rfl (by decide +kernel) (Nat.le_of_ble_eq_true rfl) (fun X hX C hr => ?_)
  unfold f_X12_isWay at hf
  show ZZ X Γ 4 _ S 0 [(0, aR 20), (1, aI p1), (2, aI p2), (3, aI p3)] []
  refine z_aload_n (j := 0) C d_X12_isWay_0 rfl ?_
  refine z_iload_n (j := 1) C d_X12_isWay_1 rfl ?_
  obtain ⟨q2, hF, hf⟩ := bd hf
  refine z_callV1 (rest := []) C [aI p1] rfl (by decide) rfl rfl k_X12_isThing tw_1764 ⟨by decide, by decide⟩ (Nat.le_of_ble_eq_true rfl) d_X12_isWay_2 (c_X12_isThing C.inj hF) rfl ?_
  refine z_if_eq (tgt := 37) C d_X12_isWay_5 (by decide) hf (fun c5 hf => ?_) (fun c5 hf => ?_)
  · exact z_sub [] rfl (t_X12_isWay_37 C hr  _ hf)
  · refine z_aload_n (j := 0) C d_X12_isWay_8 rfl ?_
    refine z_iload_n (j := 2) C d_X12_isWay_9 rfl ?_
    obtain ⟨q10, hF, hf⟩ := bd hf
    refine z_callV1 (rest := []) C [aI p2] rfl (by decide) rfl rfl k_X12_isThing tw_1764 ⟨by decide, by decide⟩ (Nat.le_of_ble_eq_true rfl) d_X12_isWay_10 (c_X12_isThing C.inj hF) rfl ?_
    refine z_if_eq (tgt := 37) C d_X12_isWay_13 (by decide) hf (fun c13 hf => ?_) (fun c13 hf => ?_)
    · exact z_sub [] rfl (t_X12_isWay_37 C hr  _ hf)
    · refine z_iload_n (j := 1) C d_X12_isWay_16 rfl ?_
      refine z_iload_n (j := 2) C d_X12_isWay_17 rfl ?_
      refine z_icmp_eq (tgt := 37) C d_X12_isWay_18 (by decide) hf (fun c18 hf => ?_) (fun c18 hf => ?_)
      · exact z_sub [] rfl (t_X12_isWay_37 C hr  _ hf)
      · refine z_iload_n (j := 3) C d_X12_isWay_21 rfl ?_
        refine z_i2l C d_X12_isWay_22 ?_
        refine z_lconst (v := 1) C d_X12_isWay_23 (by decide) ?_
        refine z_ldc2 (v := 9999999) C tw_1595 d_X12_isWay_24 ?_
        obtain ⟨q27, hF, hf⟩ := bd hf
        refine z_callS1 (rest := []) C [aJ (p3.toInt64), aJ 1, aJ 9999999] k_X12_isIn tw_1385 ⟨by decide, by decide⟩ (Nat.le_of_ble_eq_true rfl) d_X12_isWay_27 (c_X12_isIn C.inj hF) rfl ?_
        refine z_if_eq (tgt := 37) C d_X12_isWay_30 (by decide) hf (fun c30 hf => ?_) (fun c30 hf => ?_)
        · exact z_sub [] rfl (t_X12_isWay_37 C hr  _ hf)
        · refine z_iconst (v := 1) C d_X12_isWay_33 (by decide) ?_
          refine z_goto (tgt := 38) C d_X12_isWay_34 (by decide) ?_
          exact z_sub [] rfl (t_X12_isWay_38 C hr  _ _ hf)
theorem d_X12_route_0 : decode cX12_route 0 = .ok (.aload_n 0, 1) := by decide +kernel
theorem d_X12_route_1 : decode cX12_route 1 = .ok (.iload_n 1, 1) := by decide +kernel
theorem d_X12_route_2 : decode cX12_route 2 = .ok (.iload_n 2, 1) := by decide +kernel
theorem d_X12_route_3 : decode cX12_route 3 = .ok (.iload_n 3, 1) := by decide +kernel
theorem d_X12_route_4 : decode cX12_route 4 = .ok (.invokevirtual 549, 3) := by decide +kernel
theorem d_X12_route_7 : decode cX12_route 7 = .ok (.ifCond .eq 16, 3) := by decide +kernel
theorem d_X12_route_10 : decode cX12_route 10 = .ok (.iload 4, 2) := by decide +kernel
theorem d_X12_route_12 : decode cX12_route 12 = .ok (.i2l, 1) := by decide +kernel
theorem d_X12_route_13 : decode cX12_route 13 = .ok (.lconst 0, 1) := by decide +kernel
theorem d_X12_route_14 : decode cX12_route 14 = .ok (.ldc2_w 510, 3) := by decide +kernel
theorem d_X12_route_17 : decode cX12_route 17 = .ok (.invokestatic 137, 3) := by decide +kernel
theorem d_X12_route_20 : decode cX12_route 20 = .ok (.ifCond .ne 5, 3) := by decide +kernel
theorem d_X12_route_23 : decode cX12_route 23 = .ok (.iconst (-1), 1) := by decide +kernel
theorem d_X12_route_24 : decode cX12_route 24 = .ok (.ireturn, 1) := by decide +kernel
theorem d_X12_route_25 : decode cX12_route 25 = .ok (.aload_n 0, 1) := by decide +kernel
theorem d_X12_route_26 : decode cX12_route 26 = .ok (.iload_n 1, 1) := by decide +kernel
theorem d_X12_route_27 : decode cX12_route 27 = .ok (.iload_n 2, 1) := by decide +kernel
theorem d_X12_route_28 : decode cX12_route 28 = .ok (.iload_n 3, 1) := by decide +kernel
theorem d_X12_route_29 : decode cX12_route 29 = .ok (.i2l, 1) := by decide +kernel
theorem d_X12_route_30 : decode cX12_route 30 = .ok (.invokevirtual 552, 3) := by decide +kernel
theorem d_X12_route_33 : decode cX12_route 33 = .ok (.aload_n 0, 1) := by decide +kernel
theorem d_X12_route_34 : decode cX12_route 34 = .ok (.getfield 539, 3) := by decide +kernel
theorem d_X12_route_37 : decode cX12_route 37 = .ok (.lconst 0, 1) := by decide +kernel
theorem d_X12_route_38 : decode cX12_route 38 = .ok (.lcmp, 1) := by decide +kernel
theorem d_X12_route_39 : decode cX12_route 39 = .ok (.ifCond .ne 6, 3) := by decide +kernel
theorem d_X12_route_42 : decode cX12_route 42 = .ok (.bipush (-2), 2) := by decide +kernel
theorem d_X12_route_44 : decode cX12_route 44 = .ok (.ireturn, 1) := by decide +kernel
theorem d_X12_route_45 : decode cX12_route 45 = .ok (.iload 4, 2) := by decide +kernel
theorem d_X12_route_47 : decode cX12_route 47 = .ok (.ifCond .ne 9, 3) := by decide +kernel
theorem d_X12_route_50 : decode cX12_route 50 = .ok (.aload_n 0, 1) := by decide +kernel
theorem d_X12_route_51 : decode cX12_route 51 = .ok (.getfield 539, 3) := by decide +kernel
theorem d_X12_route_54 : decode cX12_route 54 = .ok (.l2i, 1) := by decide +kernel
theorem d_X12_route_55 : decode cX12_route 55 = .ok (.ireturn, 1) := by decide +kernel
theorem d_X12_route_56 : decode cX12_route 56 = .ok (.iload 4, 2) := by decide +kernel
theorem d_X12_route_58 : decode cX12_route 58 = .ok (.iconst 1, 1) := by decide +kernel
theorem d_X12_route_59 : decode cX12_route 59 = .ok (.if_icmp .ne 11, 3) := by decide +kernel
theorem d_X12_route_62 : decode cX12_route 62 = .ok (.aload_n 0, 1) := by decide +kernel
theorem d_X12_route_63 : decode cX12_route 63 = .ok (.getfield 542, 3) := by decide +kernel
theorem d_X12_route_66 : decode cX12_route 66 = .ok (.invokestatic 530, 3) := by decide +kernel
theorem d_X12_route_69 : decode cX12_route 69 = .ok (.ireturn, 1) := by decide +kernel
theorem d_X12_route_70 : decode cX12_route 70 = .ok (.iload 4, 2) := by decide +kernel
theorem d_X12_route_72 : decode cX12_route 72 = .ok (.iconst 2, 1) := by decide +kernel
theorem d_X12_route_73 : decode cX12_route 73 = .ok (.isub, 1) := by decide +kernel
theorem d_X12_route_74 : decode cX12_route 74 = .ok (.aload_n 0, 1) := by decide +kernel
theorem d_X12_route_75 : decode cX12_route 75 = .ok (.getfield 542, 3) := by decide +kernel
theorem d_X12_route_78 : decode cX12_route 78 = .ok (.invokestatic 530, 3) := by decide +kernel
theorem d_X12_route_81 : decode cX12_route 81 = .ok (.if_icmp .ge 17, 3) := by decide +kernel
theorem d_X12_route_84 : decode cX12_route 84 = .ok (.aload_n 0, 1) := by decide +kernel
theorem d_X12_route_85 : decode cX12_route 85 = .ok (.getfield 542, 3) := by decide +kernel
theorem d_X12_route_88 : decode cX12_route 88 = .ok (.iload 4, 2) := by decide +kernel
theorem d_X12_route_90 : decode cX12_route 90 = .ok (.iconst 2, 1) := by decide +kernel
theorem d_X12_route_91 : decode cX12_route 91 = .ok (.isub, 1) := by decide +kernel
theorem d_X12_route_92 : decode cX12_route 92 = .ok (.invokestatic 533, 3) := by decide +kernel
theorem d_X12_route_95 : decode cX12_route 95 = .ok (.goto 5, 3) := by decide +kernel
theorem d_X12_route_98 : decode cX12_route 98 = .ok (.bipush (-2), 2) := by decide +kernel
theorem d_X12_route_100 : decode cX12_route 100 = .ok (.ireturn, 1) := by decide +kernel
def f_X12_route_23 (S : Mem) : Option (Int32 × Mem) := (some ((-1), S))
set_option maxRecDepth 20000 in
theorem t_X12_route_23 {X : MC} {Γ : GG} (C : CX X Γ cX12_route 5 "TickPoolsModel" 10 291) (hr : X.2.2.2.2.2.2.2.2.1.sig.returnType = some .int) {q : Int32 × Mem} (S : Mem) (hf : f_X12_route_23 S = some q) : ZZ X Γ 5 (QQ X Γ (some (aI q.1)) q.2) S 23 [] [] := by
  unfold f_X12_route_23 at hf
  refine z_iconst (v := (-1)) C d_X12_route_23 (by decide) ?_
  exact r_i C hr rfl d_X12_route_24 hf
def f_X12_route_100 (s0 : Int32) (S : Mem) : Option (Int32 × Mem) := (some (s0, S))
set_option maxRecDepth 20000 in
theorem t_X12_route_100 {X : MC} {Γ : GG} (C : CX X Γ cX12_route 5 "TickPoolsModel" 10 291) (hr : X.2.2.2.2.2.2.2.2.1.sig.returnType = some .int) {q : Int32 × Mem} (s0 : Int32) (S : Mem) (hf : f_X12_route_100 s0 S = some q) : ZZ X Γ 5 (QQ X Γ (some (aI q.1)) q.2) S 100 [] [aI s0] := by
  unfold f_X12_route_100 at hf
  exact r_i C hr rfl d_X12_route_100 hf
/-- TickPoolsModel.route(IIII)I -/
def f_X12_route (p1 : Int32) (p2 : Int32) (p3 : Int32) (p4 : Int32) (S : Mem) : Option (Int32 × Mem) := ((f_X12_isWay p1 p2 p3 S).bind fun q4 => (if q4.1 = 0 then (f_X12_route_23  q4.2) else ((f_X12_isIn (p4.toInt64) 0 4 q4.2).bind fun q17 => (if q17.1 = 0 then (f_X12_route_23  q17.2) else ((f_X12_routes p1 p2 (p3.toInt64) q17.2).bind fun q30 => (if (gL q30.2 20 51) = 0 then (some ((-2), q30.2)) else (if p4 = 0 then (some ((((gL q30.2 20 51) : Int64).toInt32), q30.2)) else (if p4 = 1 then ((f_X12_lengthOf (gI q30.2 20 52) q30.2).bind fun q66 => (some (q66.1, q66.2))) else ((f_X12_lengthOf (gI q30.2 20 52) q30.2).bind fun q78 => (if q78.1 ≤ (p4 - 2) then (f_X12_route_100  (-2) q78.2) else ((f_X12_poolIn (gI q78.2 20 52) (p4 - 2) q78.2).bind fun q92 => (f_X12_route_100  q92.1 q92.2))))))))))))
set_option maxRecDepth 20000 in
theorem c_X12_route {l : Launch} {Γ : GG} (hI : Inj Γ) {p1 : Int32} {p2 : Int32} {p3 : Int32} {p4 : Int32} {S : Mem} {q : Int32 × Mem} (hf : f_X12_route p1 p2 p3 p4 S = some q) : MM l Γ yX12_route cX12_route 5 (some .int) 10 291 [aR 20, aI p1, aI p2, aI p3, aI p4] S (some (aI q.1)) q.2 := by
  refine met_of hI "TickPoolsModel" rfl (by decide +kernel) (Nat.le_of_ble_eq_true rfl) (fun X hX C hr => ?_)
  unfold f_X12_route at hf
  show ZZ X Γ 5 _ S 0 [(0, aR 20), (1, aI p1), (2, aI p2), (3, aI p3), (4, aI p4)] []
  refine z_aload_n (j := 0) C d_X12_route_0 rfl ?_
  refine z_iload_n (j := 1) C d_X12_route_1 rfl ?_
  refine z_iload_n (j := 2) C d_X12_route_2 rfl ?_
  refine z_iload_n (j := 3) C d_X12_route_3 rfl ?_
  obtain ⟨q4, hF, hf⟩ := bd hf
  refine z_callV1 (rest := []) C [aI p1, aI p2, aI p3] rfl (by decide) rfl rfl k_X12_isWay tw_1832 ⟨by decide, by decide⟩ (Nat.le_of_ble_eq_true rfl) d_X12_route_4 (c_X12_isWay C.inj hF) rfl ?_
  refine z_if_eq (tgt := 23) C d_X12_route_7 (by decide) hf (fun c7 hf => ?_) (fun c7 hf => ?_)
  · exact z_sub [] rfl (t_X12_route_23 C hr  _ hf)
  · refine z_iload (j := 4) C d_X12_route_10 rfl ?_
    refine z_i2l C d_X12_route_12 ?_
    refine z_lconst (v := 0) C d_X12_route_13 (by decide) ?_
    refine z_ldc2 (v := 4) C tw_1798 d_X12_route_14 ?_
    obtain ⟨q17, hF, hf⟩ := bd hf
    refine z_callS1 (rest := []) C [aJ (p4.toInt64), aJ 0, aJ 4] k_X12_isIn tw_1385 ⟨by decide, by decide⟩ (Nat.le_of_ble_eq_true rfl) d_X12_route_17 (c_X12_isIn C.inj hF) rfl ?_
    refine z_if_ne (tgt := 25) C d_X12_route_20 (by decide) hf (fun c20 hf => ?_) (fun c20 hf => ?_)
    · refine z_aload_n (j := 0) C d_X12_route_25 rfl ?_
      refine z_iload_n (j := 1) C d_X12_route_26 rfl ?_
      refine z_iload_n (j := 2) C d_X12_route_27 rfl ?_
      refine z_iload_n (j := 3) C d_X12_route_28 rfl ?_
      refine z_i2l C d_X12_route_29 ?_
      obtain ⟨q30, hF, hf⟩ := bd hf
      refine z_callV0 (rest := []) C [aI p1, aI p2, aJ (p3.toInt64)] rfl (by decide) rfl rfl k_X12_routes tw_1836 ⟨by decide, by decide⟩ (Nat.le_of_ble_eq_true rfl) d_X12_route_30 (c_X12_routes C.inj hF) rfl ?_
      refine z_aload_n (j := 0) C d_X12_route_33 rfl ?_
      refine zg_X12_best C rfl tw_1262 d_X12_route_34 ?_
      refine z_lconst (v := 0) C d_X12_route_37 (by decide) ?_
      refine z_lne (tgt := 45) C d_X12_route_38 d_X12_route_39 (by decide) hf (fun c38 hf => ?_) (fun c38 hf => ?_)
      · refine z_iload (j := 4) C d_X12_route_45 rfl ?_
        refine z_if_ne (tgt := 56) C d_X12_route_47 (by decide) hf (fun c47 hf => ?_) (fun c47 hf => ?_)
        · refine z_iload (j := 4) C d_X12_route_56 rfl ?_
          refine z_iconst (v := 1) C d_X12_route_58 (by decide) ?_
          refine z_icmp_ne (tgt := 70) C d_X12_route_59 (by decide) hf (fun c59 hf => ?_) (fun c59 hf => ?_)
          · refine z_iload (j := 4) C d_X12_route_70 rfl ?_
            refine z_iconst (v := 2) C d_X12_route_72 (by decide) ?_
            refine z_isub C d_X12_route_73 ?_
            refine z_aload_n (j := 0) C d_X12_route_74 rfl ?_
            refine zg_X12_bestRow C rfl tw_1263 d_X12_route_75 ?_
            obtain ⟨q78, hF, hf⟩ := bd hf
            refine z_callS1 (rest := [aI (p4 - 2)]) C [aI (gI q30.2 20 52)] k_X12_lengthOf tw_1844 ⟨by decide, by decide⟩ (Nat.le_of_ble_eq_true rfl) d_X12_route_78 (c_X12_lengthOf C.inj hF) rfl ?_
            refine z_icmp_ge (tgt := 98) C d_X12_route_81 (by decide) hf (fun c81 hf => ?_) (fun c81 hf => ?_)
            · refine z_bipush (v := (-2)) C d_X12_route_98 (by decide) ?_
              exact z_sub [] rfl (t_X12_route_100 C hr  _ _ hf)
            · refine z_aload_n (j := 0) C d_X12_route_84 rfl ?_
              refine zg_X12_bestRow C rfl tw_1263 d_X12_route_85 ?_
              refine z_iload (j := 4) C d_X12_route_88 rfl ?_
              refine z_iconst (v := 2) C d_X12_route_90 (by decide) ?_
              refine z_isub C d_X12_route_91 ?_
              obtain ⟨q92, hF, hf⟩ := bd hf
              refine z_callS1 (rest := []) C [aI (gI q78.2 20 52), aI (p4 - 2)] k_X12_poolIn tw_1847 ⟨by decide, by decide⟩ (Nat.le_of_ble_eq_true rfl) d_X12_route_92 (c_X12_poolIn C.inj hF) rfl ?_
              refine z_goto (tgt := 100) C d_X12_route_95 (by decide) ?_
              exact z_sub [] rfl (t_X12_route_100 C hr  _ _ hf)
          · refine z_aload_n (j := 0) C d_X12_route_62 rfl ?_
            refine zg_X12_bestRow C rfl tw_1263 d_X12_route_63 ?_
            obtain ⟨q66, hF, hf⟩ := bd hf
            refine z_callS1 (rest := []) C [aI (gI q30.2 20 52)] k_X12_lengthOf tw_1844 ⟨by decide, by decide⟩ (Nat.le_of_ble_eq_true rfl) d_X12_route_66 (c_X12_lengthOf C.inj hF) rfl ?_
            exact r_i C hr rfl d_X12_route_69 hf
        · refine z_aload_n (j := 0) C d_X12_route_50 rfl ?_
          refine zg_X12_best C rfl tw_1262 d_X12_route_51 ?_
          refine z_l2i C d_X12_route_54 ?_
          exact r_i C hr rfl d_X12_route_55 hf
      · refine z_bipush (v := (-2)) C d_X12_route_42 (by decide) ?_
        exact r_i C hr rfl d_X12_route_44 hf
    · exact z_sub [] rfl (t_X12_route_23 C hr  _ hf)
theorem d_X12_goesAlong_0 : decode cX12_goesAlong 0 = .ok (.iload_n 2, 1) := by decide +kernel
theorem d_X12_goesAlong_1 : decode cX12_goesAlong 1 = .ok (.istore 5, 2) := by decide +kernel
theorem d_X12_goesAlong_3 : decode cX12_goesAlong 3 = .ok (.lload_n 3, 1) := by decide +kernel
theorem d_X12_goesAlong_4 : decode cX12_goesAlong 4 = .ok (.lstore 6, 2) := by decide +kernel
theorem d_X12_goesAlong_6 : decode cX12_goesAlong 6 = .ok (.iconst 0, 1) := by decide +kernel
theorem d_X12_goesAlong_7 : decode cX12_goesAlong 7 = .ok (.istore 8, 2) := by decide +kernel
theorem d_X12_goesAlong_9 : decode cX12_goesAlong 9 = .ok (.iload 8, 2) := by decide +kernel
theorem d_X12_goesAlong_11 : decode cX12_goesAlong 11 = .ok (.iload_n 1, 1) := by decide +kernel
theorem d_X12_goesAlong_12 : decode cX12_goesAlong 12 = .ok (.invokestatic 530, 3) := by decide +kernel
theorem d_X12_goesAlong_15 : decode cX12_goesAlong 15 = .ok (.if_icmp .ge 70, 3) := by decide +kernel
theorem d_X12_goesAlong_18 : decode cX12_goesAlong 18 = .ok (.iload_n 1, 1) := by decide +kernel
theorem d_X12_goesAlong_19 : decode cX12_goesAlong 19 = .ok (.iload 8, 2) := by decide +kernel
theorem d_X12_goesAlong_21 : decode cX12_goesAlong 21 = .ok (.invokestatic 533, 3) := by decide +kernel
theorem d_X12_goesAlong_24 : decode cX12_goesAlong 24 = .ok (.istore 9, 2) := by decide +kernel
theorem d_X12_goesAlong_26 : decode cX12_goesAlong 26 = .ok (.aload_n 0, 1) := by decide +kernel
theorem d_X12_goesAlong_27 : decode cX12_goesAlong 27 = .ok (.iload 9, 2) := by decide +kernel
theorem d_X12_goesAlong_29 : decode cX12_goesAlong 29 = .ok (.iconst 0, 1) := by decide +kernel
theorem d_X12_goesAlong_30 : decode cX12_goesAlong 30 = .ok (.invokevirtual 256, 3) := by decide +kernel
theorem d_X12_goesAlong_33 : decode cX12_goesAlong 33 = .ok (.iload 5, 2) := by decide +kernel
theorem d_X12_goesAlong_35 : decode cX12_goesAlong 35 = .ok (.if_icmp .ne 7, 3) := by decide +kernel
theorem d_X12_goesAlong_38 : decode cX12_goesAlong 38 = .ok (.iconst 0, 1) := by decide +kernel
theorem d_X12_goesAlong_39 : decode cX12_goesAlong 39 = .ok (.goto 4, 3) := by decide +kernel
theorem d_X12_goesAlong_42 : decode cX12_goesAlong 42 = .ok (.iconst 1, 1) := by decide +kernel
theorem d_X12_goesAlong_43 : decode cX12_goesAlong 43 = .ok (.istore 10, 2) := by decide +kernel
theorem d_X12_goesAlong_45 : decode cX12_goesAlong 45 = .ok (.aload_n 0, 1) := by decide +kernel
theorem d_X12_goesAlong_46 : decode cX12_goesAlong 46 = .ok (.iload 9, 2) := by decide +kernel
theorem d_X12_goesAlong_48 : decode cX12_goesAlong 48 = .ok (.iload 10, 2) := by decide +kernel
theorem d_X12_goesAlong_50 : decode cX12_goesAlong 50 = .ok (.lload 6, 2) := by decide +kernel
theorem d_X12_goesAlong_52 : decode cX12_goesAlong 52 = .ok (.iload 10, 2) := by decide +kernel
theorem d_X12_goesAlong_54 : decode cX12_goesAlong 54 = .ok (.invokestatic 404, 3) := by decide +kernel
theorem d_X12_goesAlong_57 : decode cX12_goesAlong 57 = .ok (.iconst 0, 1) := by decide +kernel
theorem d_X12_goesAlong_58 : decode cX12_goesAlong 58 = .ok (.invokevirtual 394, 3) := by decide +kernel
theorem d_X12_goesAlong_61 : decode cX12_goesAlong 61 = .ok (.aload_n 0, 1) := by decide +kernel
theorem d_X12_goesAlong_62 : decode cX12_goesAlong 62 = .ok (.getfield 352, 3) := by decide +kernel
theorem d_X12_goesAlong_65 : decode cX12_goesAlong 65 = .ok (.lstore 6, 2) := by decide +kernel
theorem d_X12_goesAlong_67 : decode cX12_goesAlong 67 = .ok (.aload_n 0, 1) := by decide +kernel
theorem d_X12_goesAlong_68 : decode cX12_goesAlong 68 = .ok (.iload 9, 2) := by decide +kernel
theorem d_X12_goesAlong_70 : decode cX12_goesAlong 70 = .ok (.iconst 1, 1) := by decide +kernel
theorem d_X12_goesAlong_71 : decode cX12_goesAlong 71 = .ok (.iload 10, 2) := by decide +kernel
theorem d_X12_goesAlong_73 : decode cX12_goesAlong 73 = .ok (.isub, 1) := by decide +kernel
theorem d_X12_goesAlong_74 : decode cX12_goesAlong 74 = .ok (.invokevirtual 256, 3) := by decide +kernel
theorem d_X12_goesAlong_77 : decode cX12_goesAlong 77 = .ok (.istore 5, 2) := by decide +kernel
theorem d_X12_goesAlong_79 : decode cX12_goesAlong 79 = .ok (.iinc 8 1, 3) := by decide +kernel
theorem d_X12_goesAlong_82 : decode cX12_goesAlong 82 = .ok (.goto (-73), 3) := by decide +kernel
theorem d_X12_goesAlong_85 : decode cX12_goesAlong 85 = .ok (.return_, 1) := by decide +kernel
def f_X12_goesAlong_67 (k9 : Int32 → Int32 → Int64 → Int32 → Mem → Option (Unit × Mem)) (v1 : Int32) (v6 : Int64) (v8 : Int32) (v9 : Int32) (v10 : Int32) (S : Mem) : Option (Unit × Mem) := ((f_X12_thingOf v9 (1 - v10) S).bind fun q74 => (k9 v1 q74.1 v6 (v8 + 1) q74.2))
set_option maxRecDepth 20000 in
theorem t_X12_goesAlong_67 {X : MC} {Γ : GG} (C : CX X Γ cX12_goesAlong 11 "TickPoolsModel" 7 206) (hr : X.2.2.2.2.2.2.2.2.1.sig.returnType = none) {k9 : Int32 → Int32 → Int64 → Int32 → Mem → Option (Unit × Mem)} {q : Unit × Mem} (hk9 : ∀ (v1 : Int32) (v5 : Int32) (v6 : Int64) (v8 : Int32) (S : Mem), k9 v1 v5 v6 v8 S = some q → ZZ X Γ 11 (QQ X Γ none q.2) S 9 [(0, aR 20), (1, aI v1), (5, aI v5), (6, aJ v6), (8, aI v8)] []) (v1 : Int32) (v6 : Int64) (v8 : Int32) (v9 : Int32) (v10 : Int32) (S : Mem) (hf : f_X12_goesAlong_67 k9 v1 v6 v8 v9 v10 S = some q) : ZZ X Γ 11 (QQ X Γ none q.2) S 67 [(0, aR 20), (1, aI v1), (6, aJ v6), (8, aI v8), (9, aI v9), (10, aI v10)] [] := by
  unfold f_X12_goesAlong_67 at hf
  refine z_aload_n (j := 0) C d_X12_goesAlong_67 rfl ?_
  refine z_iload (j := 4) C d_X12_goesAlong_68 rfl ?_
  refine z_iconst (v := 1) C d_X12_goesAlong_70 (by decide) ?_
  refine z_iload (j := 5) C d_X12_goesAlong_71 rfl ?_
  refine z_isub C d_X12_goesAlong_73 ?_
  obtain ⟨q74, hF, hf⟩ := bd hf
  refine z_callV1 (rest := []) C [aI v9, aI (1 - v10)] rfl (by decide) rfl rfl k_X12_thingOf tw_1517 ⟨by decide, by decide⟩ (Nat.le_of_ble_eq_true rfl) d_X12_goesAlong_74 (c_X12_thingOf C.inj hF) rfl ?_
  refine z_istore (lv' := [(5, aI q74.1), (0, aR 20), (1, aI v1), (6, aJ v6), (8, aI v8), (9, aI v9), (10, aI v10)]) C d_X12_goesAlong_77 (by decide) rfl ?_
  refine z_iinc (j := 4) (v := (v8 + 1)) (lv' := [(8, aI (v8 + 1)), (5, aI q74.1), (0, aR 20), (1, aI v1), (6, aJ v6), (9, aI v9), (10, aI v10)]) C d_X12_goesAlong_79 rfl rfl (by decide) rfl ?_
  refine z_goto (tgt := 9) C d_X12_goesAlong_82 (by decide) ?_
  exact z_sub [2, 3, 1, 4, 0] rfl (hk9 _ _ _ _ _ hf)
def f_X12_goesAlong_43 (k9 : Int32 → Int32 → Int64 → Int32 → Mem → Option (Unit × Mem)) (v1 : Int32) (v6 : Int64) (v8 : Int32) (v9 : Int32) (s0 : Int32) (S : Mem) : Option (Unit × Mem) := ((f_X12_endOf s0 S).bind fun q54 => ((f_X12_swaps v9 s0 v6 q54.1 0 q54.2).bind fun q58 => (f_X12_goesAlong_67 k9 v1 (gL q58.2 20 31) v8 v9 s0 q58.2)))
set_option maxRecDepth 20000 in
theorem t_X12_goesAlong_43 {X : MC} {Γ : GG} (C : CX X Γ cX12_goesAlong 11 "TickPoolsModel" 7 206) (hr : X.2.2.2.2.2.2.2.2.1.sig.returnType = none) {k9 : Int32 → Int32 → Int64 → Int32 → Mem → Option (Unit × Mem)} {q : Unit × Mem} (hk9 : ∀ (v1 : Int32) (v5 : Int32) (v6 : Int64) (v8 : Int32) (S : Mem), k9 v1 v5 v6 v8 S = some q → ZZ X Γ 11 (QQ X Γ none q.2) S 9 [(0, aR 20), (1, aI v1), (5, aI v5), (6, aJ v6), (8, aI v8)] []) (v1 : Int32) (v6 : Int64) (v8 : Int32) (v9 : Int32) (s0 : Int32) (S : Mem) (hf : f_X12_goesAlong_43 k9 v1 v6 v8 v9 s0 S = some q) : ZZ X Γ 11 (QQ X Γ none q.2) S 43 [(0, aR 20), (1, aI v1), (6, aJ v6), (8, aI v8), (9, aI v9)] [aI s0] := by
  unfold f_X12_goesAlong_43 at hf
  refine z_istore (lv' := [(10, aI s0), (0, aR 20), (1, aI v1), (6, aJ v6), (8, aI v8), (9, aI v9)]) C d_X12_goesAlong_43 (by decide) rfl ?_
  refine z_aload_n (j := 1) C d_X12_goesAlong_45 rfl ?_
  refine z_iload (j := 5) C d_X12_goesAlong_46 rfl ?_
  refine z_iload (j := 0) C d_X12_goesAlong_48 rfl ?_
  refine z_lload (j := 3) C d_X12_goesAlong_50 rfl ?_
  refine z_iload (j := 0) C d_X12_goesAlong_52 rfl ?_
  obtain ⟨q54, hF, hf⟩ := bd hf
  refine z_callS1 (rest := [aJ v6, aI s0, aI v9, aR 20]) C [aI s0] k_X12_endOf tw_1674 ⟨by decide, by decide⟩ (Nat.le_of_ble_eq_true rfl) d_X12_goesAlong_54 (c_X12_endOf C.inj hF) rfl ?_
  refine z_iconst (v := 0) C d_X12_goesAlong_57 (by decide) ?_
  obtain ⟨q58, hF, hf⟩ := bd hf
  refine z_callV0 (rest := []) C [aI v9, aI s0, aJ v6, aI q54.1, aI 0] rfl (by decide) rfl rfl k_X12_swaps tw_1608 ⟨by decide, by decide⟩ (Nat.le_of_ble_eq_true rfl) d_X12_goesAlong_58 (c_X12_swaps C.inj hF) rfl ?_
  refine z_aload_n (j := 1) C d_X12_goesAlong_61 rfl ?_
  refine zg_X12_gone C rfl tw_1242 d_X12_goesAlong_62 ?_
  refine z_lstore (lv' := [(6, aJ (gL q58.2 20 31)), (10, aI s0), (0, aR 20), (1, aI v1), (8, aI v8), (9, aI v9)]) C d_X12_goesAlong_65 (by decide) rfl ?_
  exact z_sub [2, 3, 0, 4, 5, 1] rfl (t_X12_goesAlong_67 C hr hk9 _ _ _ _ _ _ hf)
def f_X12_goesAlong_9B (k9 : Int32 → Int32 → Int64 → Int32 → Mem → Option (Unit × Mem)) (v1 : Int32) (v5 : Int32) (v6 : Int64) (v8 : Int32) (S : Mem) : Option (Unit × Mem) := ((f_X12_lengthOf v1 S).bind fun q12 => (if q12.1 ≤ v8 then (some ((), q12.2)) else ((f_X12_poolIn v1 v8 q12.2).bind fun q21 => ((f_X12_thingOf q21.1 0 q21.2).bind fun q30 => (if q30.1 = v5 then (f_X12_goesAlong_43 k9 v1 v6 v8 q21.1 0 q30.2) else (f_X12_goesAlong_43 k9 v1 v6 v8 q21.1 1 q30.2))))))
set_option maxRecDepth 20000 in
theorem t_X12_goesAlong_9B {X : MC} {Γ : GG} (C : CX X Γ cX12_goesAlong 11 "TickPoolsModel" 7 206) (hr : X.2.2.2.2.2.2.2.2.1.sig.returnType = none) {k9 : Int32 → Int32 → Int64 → Int32 → Mem → Option (Unit × Mem)} {q : Unit × Mem} (hk9 : ∀ (v1 : Int32) (v5 : Int32) (v6 : Int64) (v8 : Int32) (S : Mem), k9 v1 v5 v6 v8 S = some q → ZZ X Γ 11 (QQ X Γ none q.2) S 9 [(0, aR 20), (1, aI v1), (5, aI v5), (6, aJ v6), (8, aI v8)] []) (v1 : Int32) (v5 : Int32) (v6 : Int64) (v8 : Int32) (S : Mem) (hf : f_X12_goesAlong_9B k9 v1 v5 v6 v8 S = some q) : ZZ X Γ 11 (QQ X Γ none q.2) S 9 [(0, aR 20), (1, aI v1), (5, aI v5), (6, aJ v6), (8, aI v8)] [] := by
  unfold f_X12_goesAlong_9B at hf
  refine z_iload (j := 4) C d_X12_goesAlong_9 rfl ?_
  refine z_iload_n (j := 1) C d_X12_goesAlong_11 rfl ?_
  obtain ⟨q12, hF, hf⟩ := bd hf
  refine z_callS1 (rest := [aI v8]) C [aI v1] k_X12_lengthOf tw_1844 ⟨by decide, by decide⟩ (Nat.le_of_ble_eq_true rfl) d_X12_goesAlong_12 (c_X12_lengthOf C.inj hF) rfl ?_
  refine z_icmp_ge (tgt := 85) C d_X12_goesAlong_15 (by decide) hf (fun c15 hf => ?_) (fun c15 hf => ?_)
  · exact r_v C hr d_X12_goesAlong_85 hf
  · refine z_iload_n (j := 1) C d_X12_goesAlong_18 rfl ?_
    refine z_iload (j := 4) C d_X12_goesAlong_19 rfl ?_
    obtain ⟨q21, hF, hf⟩ := bd hf
    refine z_callS1 (rest := []) C [aI v1, aI v8] k_X12_poolIn tw_1847 ⟨by decide, by decide⟩ (Nat.le_of_ble_eq_true rfl) d_X12_goesAlong_21 (c_X12_poolIn C.inj hF) rfl ?_
    refine z_istore (lv' := [(9, aI q21.1), (0, aR 20), (1, aI v1), (5, aI v5), (6, aJ v6), (8, aI v8)]) C d_X12_goesAlong_24 (by decide) rfl ?_
    refine z_aload_n (j := 1) C d_X12_goesAlong_26 rfl ?_
    refine z_iload (j := 0) C d_X12_goesAlong_27 rfl ?_
    refine z_iconst (v := 0) C d_X12_goesAlong_29 (by decide) ?_
    obtain ⟨q30, hF, hf⟩ := bd hf
    refine z_callV1 (rest := []) C [aI q21.1, aI 0] rfl (by decide) rfl rfl k_X12_thingOf tw_1517 ⟨by decide, by decide⟩ (Nat.le_of_ble_eq_true rfl) d_X12_goesAlong_30 (c_X12_thingOf C.inj hF) rfl ?_
    refine z_iload (j := 3) C d_X12_goesAlong_33 rfl ?_
    refine z_icmp_ne (tgt := 42) C d_X12_goesAlong_35 (by decide) hf (fun c35 hf => ?_) (fun c35 hf => ?_)
    · refine z_iconst (v := 1) C d_X12_goesAlong_42 (by decide) ?_
      exact z_sub [1, 2, 4, 5, 0] rfl (t_X12_goesAlong_43 C hr hk9 _ _ _ _ _ _ hf)
    · refine z_iconst (v := 0) C d_X12_goesAlong_38 (by decide) ?_
      refine z_goto (tgt := 43) C d_X12_goesAlong_39 (by decide) ?_
      exact z_sub [1, 2, 4, 5, 0] rfl (t_X12_goesAlong_43 C hr hk9 _ _ _ _ _ _ hf)
def f_X12_goesAlong_9 : Nat → Int32 → Int32 → Int64 → Int32 → Mem → Option (Unit × Mem)
  | 0 => fun _ _ _ _ _ => none
  | n + 1 => f_X12_goesAlong_9B (f_X12_goesAlong_9 n)
theorem t_X12_goesAlong_9 {X : MC} {Γ : GG} (C : CX X Γ cX12_goesAlong 11 "TickPoolsModel" 7 206) (hr : X.2.2.2.2.2.2.2.2.1.sig.returnType = none) {q : Unit × Mem} : ∀ (n : Nat) (v1 : Int32) (v5 : Int32) (v6 : Int64) (v8 : Int32) (S : Mem) (hf : f_X12_goesAlong_9 n v1 v5 v6 v8 S = some q), ZZ X Γ 11 (QQ X Γ none q.2) S 9 [(0, aR 20), (1, aI v1), (5, aI v5), (6, aJ v6), (8, aI v8)] []
  | 0, _, _, _, _, _, hf => nomatch (show (none : Option (Unit × Mem)) = some q from hf)
  | n + 1, v1, v5, v6, v8, S, hf => t_X12_goesAlong_9B C hr (t_X12_goesAlong_9 C hr n) v1 v5 v6 v8 S hf
/-- TickPoolsModel.goesAlong(IIJ)V -/
def f_X12_goesAlong (p1 : Int32) (p2 : Int32) (p3 : Int64) (S : Mem) : Option (Unit × Mem) := (f_X12_goesAlong_9  100000 p1 p2 p3 0 S)
set_option maxRecDepth 20000 in
theorem c_X12_goesAlong {l : Launch} {Γ : GG} (hI : Inj Γ) {p1 : Int32} {p2 : Int32} {p3 : Int64} {S : Mem} {q : Unit × Mem} (hf : f_X12_goesAlong p1 p2 p3 S = some q) : MM l Γ yX12_goesAlong cX12_goesAlong 11 (none) 7 206 [aR 20, aI p1, aI p2, aJ p3] S none q.2 := by
  refine met_of hI "TickPoolsModel" rfl (by decide +kernel) (Nat.le_of_ble_eq_true rfl) (fun X hX C hr => ?_)
  unfold f_X12_goesAlong at hf
  show ZZ X Γ 11 _ S 0 [(0, aR 20), (1, aI p1), (2, aI p2), (3, aJ p3)] []
  refine z_iload_n (j := 2) C d_X12_goesAlong_0 rfl ?_
  refine z_istore (lv' := [(5, aI p2), (0, aR 20), (1, aI p1), (2, aI p2), (3, aJ p3)]) C d_X12_goesAlong_1 (by decide) rfl ?_
  refine z_lload_n (j := 4) C d_X12_goesAlong_3 rfl ?_
  refine z_lstore (lv' := [(6, aJ p3), (5, aI p2), (0, aR 20), (1, aI p1), (2, aI p2), (3, aJ p3)]) C d_X12_goesAlong_4 (by decide) rfl ?_
  refine z_iconst (v := 0) C d_X12_goesAlong_6 (by decide) ?_
  refine z_istore (lv' := [(8, aI 0), (6, aJ p3), (5, aI p2), (0, aR 20), (1, aI p1), (2, aI p2), (3, aJ p3)]) C d_X12_goesAlong_7 (by decide) rfl ?_
  exact z_sub [3, 4, 2, 1, 0] rfl (t_X12_goesAlong_9 C hr  100000 _ _ _ _ _ hf)
theorem d_X12_goesByParts_0 : decode cX12_goesByParts 0 = .ok (.iconst 0, 1) := by decide +kernel
theorem d_X12_goesByParts_1 : decode cX12_goesByParts 1 = .ok (.istore 5, 2) := by decide +kernel
theorem d_X12_goesByParts_3 : decode cX12_goesByParts 3 = .ok (.aload_n 0, 1) := by decide +kernel
theorem d_X12_goesByParts_4 : decode cX12_goesByParts 4 = .ok (.lconst 0, 1) := by decide +kernel
theorem d_X12_goesByParts_5 : decode cX12_goesByParts 5 = .ok (.putfield 555, 3) := by decide +kernel
theorem d_X12_goesByParts_8 : decode cX12_goesByParts 8 = .ok (.aload_n 0, 1) := by decide +kernel
theorem d_X12_goesByParts_9 : decode cX12_goesByParts 9 = .ok (.iconst 0, 1) := by decide +kernel
theorem d_X12_goesByParts_10 : decode cX12_goesByParts 10 = .ok (.putfield 558, 3) := by decide +kernel
theorem d_X12_goesByParts_13 : decode cX12_goesByParts 13 = .ok (.iconst 1, 1) := by decide +kernel
theorem d_X12_goesByParts_14 : decode cX12_goesByParts 14 = .ok (.istore 6, 2) := by decide +kernel
theorem d_X12_goesByParts_16 : decode cX12_goesByParts 16 = .ok (.iload 6, 2) := by decide +kernel
theorem d_X12_goesByParts_18 : decode cX12_goesByParts 18 = .ok (.bipush 10, 2) := by decide +kernel
theorem d_X12_goesByParts_20 : decode cX12_goesByParts 20 = .ok (.if_icmp .gt 119, 3) := by decide +kernel
theorem d_X12_goesByParts_23 : decode cX12_goesByParts 23 = .ok (.lload_n 3, 1) := by decide +kernel
theorem d_X12_goesByParts_24 : decode cX12_goesByParts 24 = .ok (.iload 6, 2) := by decide +kernel
theorem d_X12_goesByParts_26 : decode cX12_goesByParts 26 = .ok (.i2l, 1) := by decide +kernel
theorem d_X12_goesByParts_27 : decode cX12_goesByParts 27 = .ok (.lmul, 1) := by decide +kernel
theorem d_X12_goesByParts_28 : decode cX12_goesByParts 28 = .ok (.ldc2_w 112, 3) := by decide +kernel
theorem d_X12_goesByParts_31 : decode cX12_goesByParts 31 = .ok (.ldiv, 1) := by decide +kernel
theorem d_X12_goesByParts_32 : decode cX12_goesByParts 32 = .ok (.lload_n 3, 1) := by decide +kernel
theorem d_X12_goesByParts_33 : decode cX12_goesByParts 33 = .ok (.iload 6, 2) := by decide +kernel
theorem d_X12_goesByParts_35 : decode cX12_goesByParts 35 = .ok (.iconst 1, 1) := by decide +kernel
theorem d_X12_goesByParts_36 : decode cX12_goesByParts 36 = .ok (.isub, 1) := by decide +kernel
theorem d_X12_goesByParts_37 : decode cX12_goesByParts 37 = .ok (.i2l, 1) := by decide +kernel
theorem d_X12_goesByParts_38 : decode cX12_goesByParts 38 = .ok (.lmul, 1) := by decide +kernel
theorem d_X12_goesByParts_39 : decode cX12_goesByParts 39 = .ok (.ldc2_w 112, 3) := by decide +kernel
theorem d_X12_goesByParts_42 : decode cX12_goesByParts 42 = .ok (.ldiv, 1) := by decide +kernel
theorem d_X12_goesByParts_43 : decode cX12_goesByParts 43 = .ok (.lsub, 1) := by decide +kernel
theorem d_X12_goesByParts_44 : decode cX12_goesByParts 44 = .ok (.lstore 7, 2) := by decide +kernel
theorem d_X12_goesByParts_46 : decode cX12_goesByParts 46 = .ok (.lload 7, 2) := by decide +kernel
theorem d_X12_goesByParts_48 : decode cX12_goesByParts 48 = .ok (.lconst 0, 1) := by decide +kernel
theorem d_X12_goesByParts_49 : decode cX12_goesByParts 49 = .ok (.lcmp, 1) := by decide +kernel
theorem d_X12_goesByParts_50 : decode cX12_goesByParts 50 = .ok (.ifCond .ne 6, 3) := by decide +kernel
theorem d_X12_goesByParts_53 : decode cX12_goesByParts 53 = .ok (.goto 80, 3) := by decide +kernel
theorem d_X12_goesByParts_56 : decode cX12_goesByParts 56 = .ok (.aload_n 0, 1) := by decide +kernel
theorem d_X12_goesByParts_57 : decode cX12_goesByParts 57 = .ok (.iload_n 1, 1) := by decide +kernel
theorem d_X12_goesByParts_58 : decode cX12_goesByParts 58 = .ok (.iload_n 2, 1) := by decide +kernel
theorem d_X12_goesByParts_59 : decode cX12_goesByParts 59 = .ok (.lload 7, 2) := by decide +kernel
theorem d_X12_goesByParts_61 : decode cX12_goesByParts 61 = .ok (.invokevirtual 552, 3) := by decide +kernel
theorem d_X12_goesByParts_64 : decode cX12_goesByParts 64 = .ok (.aload_n 0, 1) := by decide +kernel
theorem d_X12_goesByParts_65 : decode cX12_goesByParts 65 = .ok (.getfield 539, 3) := by decide +kernel
theorem d_X12_goesByParts_68 : decode cX12_goesByParts 68 = .ok (.lconst 0, 1) := by decide +kernel
theorem d_X12_goesByParts_69 : decode cX12_goesByParts 69 = .ok (.lcmp, 1) := by decide +kernel
theorem d_X12_goesByParts_70 : decode cX12_goesByParts 70 = .ok (.ifCond .ne 5, 3) := by decide +kernel
theorem d_X12_goesByParts_73 : decode cX12_goesByParts 73 = .ok (.iconst 0, 1) := by decide +kernel
theorem d_X12_goesByParts_74 : decode cX12_goesByParts 74 = .ok (.ireturn, 1) := by decide +kernel
theorem d_X12_goesByParts_75 : decode cX12_goesByParts 75 = .ok (.iload 5, 2) := by decide +kernel
theorem d_X12_goesByParts_77 : decode cX12_goesByParts 77 = .ok (.ifCond .ne 9, 3) := by decide +kernel
theorem d_X12_goesByParts_80 : decode cX12_goesByParts 80 = .ok (.aload_n 0, 1) := by decide +kernel
theorem d_X12_goesByParts_81 : decode cX12_goesByParts 81 = .ok (.getfield 542, 3) := by decide +kernel
theorem d_X12_goesByParts_84 : decode cX12_goesByParts 84 = .ok (.istore 5, 2) := by decide +kernel
theorem d_X12_goesByParts_86 : decode cX12_goesByParts 86 = .ok (.aload_n 0, 1) := by decide +kernel
theorem d_X12_goesByParts_87 : decode cX12_goesByParts 87 = .ok (.dup, 1) := by decide +kernel
theorem d_X12_goesByParts_88 : decode cX12_goesByParts 88 = .ok (.getfield 555, 3) := by decide +kernel
theorem d_X12_goesByParts_91 : decode cX12_goesByParts 91 = .ok (.aload_n 0, 1) := by decide +kernel
theorem d_X12_goesByParts_92 : decode cX12_goesByParts 92 = .ok (.getfield 539, 3) := by decide +kernel
theorem d_X12_goesByParts_95 : decode cX12_goesByParts 95 = .ok (.ladd, 1) := by decide +kernel
theorem d_X12_goesByParts_96 : decode cX12_goesByParts 96 = .ok (.putfield 555, 3) := by decide +kernel
theorem d_X12_goesByParts_99 : decode cX12_goesByParts 99 = .ok (.aload_n 0, 1) := by decide +kernel
theorem d_X12_goesByParts_100 : decode cX12_goesByParts 100 = .ok (.dup, 1) := by decide +kernel
theorem d_X12_goesByParts_101 : decode cX12_goesByParts 101 = .ok (.getfield 558, 3) := by decide +kernel
theorem d_X12_goesByParts_104 : decode cX12_goesByParts 104 = .ok (.aload_n 0, 1) := by decide +kernel
theorem d_X12_goesByParts_105 : decode cX12_goesByParts 105 = .ok (.getfield 542, 3) := by decide +kernel
theorem d_X12_goesByParts_108 : decode cX12_goesByParts 108 = .ok (.iload 5, 2) := by decide +kernel
theorem d_X12_goesByParts_110 : decode cX12_goesByParts 110 = .ok (.if_icmp .ne 7, 3) := by decide +kernel
theorem d_X12_goesByParts_113 : decode cX12_goesByParts 113 = .ok (.iconst 0, 1) := by decide +kernel
theorem d_X12_goesByParts_114 : decode cX12_goesByParts 114 = .ok (.goto 4, 3) := by decide +kernel
theorem d_X12_goesByParts_117 : decode cX12_goesByParts 117 = .ok (.iconst 1, 1) := by decide +kernel
theorem d_X12_goesByParts_118 : decode cX12_goesByParts 118 = .ok (.iadd, 1) := by decide +kernel
theorem d_X12_goesByParts_119 : decode cX12_goesByParts 119 = .ok (.putfield 558, 3) := by decide +kernel
theorem d_X12_goesByParts_122 : decode cX12_goesByParts 122 = .ok (.aload_n 0, 1) := by decide +kernel
theorem d_X12_goesByParts_123 : decode cX12_goesByParts 123 = .ok (.aload_n 0, 1) := by decide +kernel
theorem d_X12_goesByParts_124 : decode cX12_goesByParts 124 = .ok (.getfield 542, 3) := by decide +kernel
theorem d_X12_goesByParts_127 : decode cX12_goesByParts 127 = .ok (.iload_n 1, 1) := by decide +kernel
theorem d_X12_goesByParts_128 : decode cX12_goesByParts 128 = .ok (.lload 7, 2) := by decide +kernel
theorem d_X12_goesByParts_130 : decode cX12_goesByParts 130 = .ok (.invokevirtual 561, 3) := by decide +kernel
theorem d_X12_goesByParts_133 : decode cX12_goesByParts 133 = .ok (.iinc 6 1, 3) := by decide +kernel
theorem d_X12_goesByParts_136 : decode cX12_goesByParts 136 = .ok (.goto (-120), 3) := by decide +kernel
theorem d_X12_goesByParts_139 : decode cX12_goesByParts 139 = .ok (.iconst 1, 1) := by decide +kernel
theorem d_X12_goesByParts_140 : decode cX12_goesByParts 140 = .ok (.ireturn, 1) := by decide +kernel
def f_X12_goesByParts_133 (k16 : Int32 → Int32 → Int64 → Int32 → Int32 → Mem → Option (Int32 × Mem)) (v1 : Int32) (v2 : Int32) (v3 : Int64) (v5 : Int32) (v6 : Int32) (S : Mem) : Option (Int32 × Mem) := (k16 v1 v2 v3 v5 (v6 + 1) S)
set_option maxRecDepth 20000 in
theorem t_X12_goesByParts_133 {X : MC} {Γ : GG} (C : CX X Γ cX12_goesByParts 9 "TickPoolsModel" 10 291) (hr : X.2.2.2.2.2.2.2.2.1.sig.returnType = some .boolean) {k16 : Int32 → Int32 → Int64 → Int32 → Int32 → Mem → Option (Int32 × Mem)} {q : Int32 × Mem} (hk16 : ∀ (v1 : Int32) (v2 : Int32) (v3 : Int64) (v5 : Int32) (v6 : Int32) (S : Mem), k16 v1 v2 v3 v5 v6 S = some q → ZZ X Γ 9 (QQ X Γ (some (aI q.1)) q.2) S 16 [(0, aR 20), (1, aI v1), (2, aI v2), (3, aJ v3), (5, aI v5), (6, aI v6)] []) (v1 : Int32) (v2 : Int32) (v3 : Int64) (v5 : Int32) (v6 : Int32) (S : Mem) (hf : f_X12_goesByParts_133 k16 v1 v2 v3 v5 v6 S = some q) : ZZ X Γ 9 (QQ X Γ (some (aI q.1)) q.2) S 133 [(0, aR 20), (1, aI v1), (2, aI v2), (3, aJ v3), (5, aI v5), (6, aI v6)] [] := by
  unfold f_X12_goesByParts_133 at hf
  refine z_iinc (j := 5) (v := (v6 + 1)) (lv' := [(6, aI (v6 + 1)), (0, aR 20), (1, aI v1), (2, aI v2), (3, aJ v3), (5, aI v5)]) C d_X12_goesByParts_133 rfl rfl (by decide) rfl ?_
  refine z_goto (tgt := 16) C d_X12_goesByParts_136 (by decide) ?_
  exact z_sub [1, 2, 3, 4, 5, 0] rfl (hk16 _ _ _ _ _ _ hf)
def f_X12_goesByParts_118 (k16 : Int32 → Int32 → Int64 → Int32 → Int32 → Mem → Option (Int32 × Mem)) (v1 : Int32) (v2 : Int32) (v3 : Int64) (v5 : Int32) (v6 : Int32) (v7 : Int64) (s0 : Int32) (s1 : Int32) (S : Mem) : Option (Int32 × Mem) := ((f_X12_goesAlong (gI (sI S 20 54 (s1 + s0)) 20 52) v1 v7 (sI S 20 54 (s1 + s0))).bind fun q130 => (f_X12_goesByParts_133 k16 v1 v2 v3 v5 v6 q130.2))
set_option maxRecDepth 20000 in
theorem t_X12_goesByParts_118 {X : MC} {Γ : GG} (C : CX X Γ cX12_goesByParts 9 "TickPoolsModel" 10 291) (hr : X.2.2.2.2.2.2.2.2.1.sig.returnType = some .boolean) {k16 : Int32 → Int32 → Int64 → Int32 → Int32 → Mem → Option (Int32 × Mem)} {q : Int32 × Mem} (hk16 : ∀ (v1 : Int32) (v2 : Int32) (v3 : Int64) (v5 : Int32) (v6 : Int32) (S : Mem), k16 v1 v2 v3 v5 v6 S = some q → ZZ X Γ 9 (QQ X Γ (some (aI q.1)) q.2) S 16 [(0, aR 20), (1, aI v1), (2, aI v2), (3, aJ v3), (5, aI v5), (6, aI v6)] []) (v1 : Int32) (v2 : Int32) (v3 : Int64) (v5 : Int32) (v6 : Int32) (v7 : Int64) (s0 : Int32) (s1 : Int32) (S : Mem) (hf : f_X12_goesByParts_118 k16 v1 v2 v3 v5 v6 v7 s0 s1 S = some q) : ZZ X Γ 9 (QQ X Γ (some (aI q.1)) q.2) S 118 [(0, aR 20), (1, aI v1), (2, aI v2), (3, aJ v3), (5, aI v5), (6, aI v6), (7, aJ v7)] [aI s0, aI s1, aR 20] := by
  unfold f_X12_goesByParts_118 at hf
  refine z_iadd C d_X12_goesByParts_118 ?_
  refine zp_X12_others C rfl tw_1265 d_X12_goesByParts_119 ?_
  refine z_aload_n (j := 0) C d_X12_goesByParts_122 rfl ?_
  refine z_aload_n (j := 0) C d_X12_goesByParts_123 rfl ?_
  refine zg_X12_bestRow C rfl tw_1263 d_X12_goesByParts_124 ?_
  refine z_iload_n (j := 1) C d_X12_goesByParts_127 rfl ?_
  refine z_lload (j := 6) C d_X12_goesByParts_128 rfl ?_
  obtain ⟨q130, hF, hf⟩ := bd hf
  refine z_callV0 (rest := []) C [aI (gI (sI S 20 54 (s1 + s0)) 20 52), aI v1, aJ v7] rfl (by decide) rfl rfl k_X12_goesAlong tw_1862 ⟨by decide, by decide⟩ (Nat.le_of_ble_eq_true rfl) d_X12_goesByParts_130 (c_X12_goesAlong C.inj hF) rfl ?_
  exact z_sub [0, 1, 2, 3, 4, 5] rfl (t_X12_goesByParts_133 C hr hk16 _ _ _ _ _ _ hf)
def f_X12_goesByParts_86 (k16 : Int32 → Int32 → Int64 → Int32 → Int32 → Mem → Option (Int32 × Mem)) (v1 : Int32) (v2 : Int32) (v3 : Int64) (v5 : Int32) (v6 : Int32) (v7 : Int64) (S : Mem) : Option (Int32 × Mem) := (if (gI (sL S 20 53 ((gL S 20 53) + (gL S 20 51))) 20 52) = v5 then (f_X12_goesByParts_118 k16 v1 v2 v3 v5 v6 v7 0 (gI (sL S 20 53 ((gL S 20 53) + (gL S 20 51))) 20 54) (sL S 20 53 ((gL S 20 53) + (gL S 20 51)))) else (f_X12_goesByParts_118 k16 v1 v2 v3 v5 v6 v7 1 (gI (sL S 20 53 ((gL S 20 53) + (gL S 20 51))) 20 54) (sL S 20 53 ((gL S 20 53) + (gL S 20 51)))))
set_option maxRecDepth 20000 in
theorem t_X12_goesByParts_86 {X : MC} {Γ : GG} (C : CX X Γ cX12_goesByParts 9 "TickPoolsModel" 10 291) (hr : X.2.2.2.2.2.2.2.2.1.sig.returnType = some .boolean) {k16 : Int32 → Int32 → Int64 → Int32 → Int32 → Mem → Option (Int32 × Mem)} {q : Int32 × Mem} (hk16 : ∀ (v1 : Int32) (v2 : Int32) (v3 : Int64) (v5 : Int32) (v6 : Int32) (S : Mem), k16 v1 v2 v3 v5 v6 S = some q → ZZ X Γ 9 (QQ X Γ (some (aI q.1)) q.2) S 16 [(0, aR 20), (1, aI v1), (2, aI v2), (3, aJ v3), (5, aI v5), (6, aI v6)] []) (v1 : Int32) (v2 : Int32) (v3 : Int64) (v5 : Int32) (v6 : Int32) (v7 : Int64) (S : Mem) (hf : f_X12_goesByParts_86 k16 v1 v2 v3 v5 v6 v7 S = some q) : ZZ X Γ 9 (QQ X Γ (some (aI q.1)) q.2) S 86 [(0, aR 20), (1, aI v1), (2, aI v2), (3, aJ v3), (5, aI v5), (6, aI v6), (7, aJ v7)] [] := by
  unfold f_X12_goesByParts_86 at hf
  refine z_aload_n (j := 0) C d_X12_goesByParts_86 rfl ?_
  refine z_dup C d_X12_goesByParts_87 rfl ?_
  refine zg_X12_partsAll C rfl tw_1264 d_X12_goesByParts_88 ?_
  refine z_aload_n (j := 0) C d_X12_goesByParts_91 rfl ?_
  refine zg_X12_best C rfl tw_1262 d_X12_goesByParts_92 ?_
  refine z_ladd C d_X12_goesByParts_95 ?_
  refine zp_X12_partsAll C rfl tw_1264 d_X12_goesByParts_96 ?_
  refine z_aload_n (j := 0) C d_X12_goesByParts_99 rfl ?_
  refine z_dup C d_X12_goesByParts_100 rfl ?_
  refine zg_X12_others C rfl tw_1265 d_X12_goesByParts_101 ?_
  refine z_aload_n (j := 0) C d_X12_goesByParts_104 rfl ?_
  refine zg_X12_bestRow C rfl tw_1263 d_X12_goesByParts_105 ?_
  refine z_iload (j := 4) C d_X12_goesByParts_108 rfl ?_
  refine z_icmp_ne (tgt := 117) C d_X12_goesByParts_110 (by decide) hf (fun c110 hf => ?_) (fun c110 hf => ?_)
  · refine z_iconst (v := 1) C d_X12_goesByParts_117 (by decide) ?_
    exact z_sub [0, 1, 2, 3, 4, 5, 6] rfl (t_X12_goesByParts_118 C hr hk16 _ _ _ _ _ _ _ _ _ hf)
  · refine z_iconst (v := 0) C d_X12_goesByParts_113 (by decide) ?_
    refine z_goto (tgt := 118) C d_X12_goesByParts_114 (by decide) ?_
    exact z_sub [0, 1, 2, 3, 4, 5, 6] rfl (t_X12_goesByParts_118 C hr hk16 _ _ _ _ _ _ _ _ _ hf)
def f_X12_goesByParts_46 (k16 : Int32 → Int32 → Int64 → Int32 → Int32 → Mem → Option (Int32 × Mem)) (v1 : Int32) (v2 : Int32) (v3 : Int64) (v5 : Int32) (v6 : Int32) (v7 : Int64) (S : Mem) : Option (Int32 × Mem) := (if v7 = 0 then (f_X12_goesByParts_133 k16 v1 v2 v3 v5 v6 S) else ((f_X12_routes v1 v2 v7 S).bind fun q61 => (if (gL q61.2 20 51) = 0 then (some (0, q61.2)) else (if v5 = 0 then (f_X12_goesByParts_86 k16 v1 v2 v3 (gI q61.2 20 52) v6 v7 q61.2) else (f_X12_goesByParts_86 k16 v1 v2 v3 v5 v6 v7 q61.2)))))
set_option maxRecDepth 20000 in
theorem t_X12_goesByParts_46 {X : MC} {Γ : GG} (C : CX X Γ cX12_goesByParts 9 "TickPoolsModel" 10 291) (hr : X.2.2.2.2.2.2.2.2.1.sig.returnType = some .boolean) {k16 : Int32 → Int32 → Int64 → Int32 → Int32 → Mem → Option (Int32 × Mem)} {q : Int32 × Mem} (hk16 : ∀ (v1 : Int32) (v2 : Int32) (v3 : Int64) (v5 : Int32) (v6 : Int32) (S : Mem), k16 v1 v2 v3 v5 v6 S = some q → ZZ X Γ 9 (QQ X Γ (some (aI q.1)) q.2) S 16 [(0, aR 20), (1, aI v1), (2, aI v2), (3, aJ v3), (5, aI v5), (6, aI v6)] []) (v1 : Int32) (v2 : Int32) (v3 : Int64) (v5 : Int32) (v6 : Int32) (v7 : Int64) (S : Mem) (hf : f_X12_goesByParts_46 k16 v1 v2 v3 v5 v6 v7 S = some q) : ZZ X Γ 9 (QQ X Γ (some (aI q.1)) q.2) S 46 [(0, aR 20), (1, aI v1), (2, aI v2), (3, aJ v3), (5, aI v5), (6, aI v6), (7, aJ v7)] [] := by
  unfold f_X12_goesByParts_46 at hf
  refine z_lload (j := 6) C d_X12_goesByParts_46 rfl ?_
  refine z_lconst (v := 0) C d_X12_goesByParts_48 (by decide) ?_
  refine z_lne (tgt := 56) C d_X12_goesByParts_49 d_X12_goesByParts_50 (by decide) hf (fun c49 hf => ?_) (fun c49 hf => ?_)
  · refine z_aload_n (j := 0) C d_X12_goesByParts_56 rfl ?_
    refine z_iload_n (j := 1) C d_X12_goesByParts_57 rfl ?_
    refine z_iload_n (j := 2) C d_X12_goesByParts_58 rfl ?_
    refine z_lload (j := 6) C d_X12_goesByParts_59 rfl ?_
    obtain ⟨q61, hF, hf⟩ := bd hf
    refine z_callV0 (rest := []) C [aI v1, aI v2, aJ v7] rfl (by decide) rfl rfl k_X12_routes tw_1836 ⟨by decide, by decide⟩ (Nat.le_of_ble_eq_true rfl) d_X12_goesByParts_61 (c_X12_routes C.inj hF) rfl ?_
    refine z_aload_n (j := 0) C d_X12_goesByParts_64 rfl ?_
    refine zg_X12_best C rfl tw_1262 d_X12_goesByParts_65 ?_
    refine z_lconst (v := 0) C d_X12_goesByParts_68 (by decide) ?_
    refine z_lne (tgt := 75) C d_X12_goesByParts_69 d_X12_goesByParts_70 (by decide) hf (fun c69 hf => ?_) (fun c69 hf => ?_)
    · refine z_iload (j := 4) C d_X12_goesByParts_75 rfl ?_
      refine z_if_ne (tgt := 86) C d_X12_goesByParts_77 (by decide) hf (fun c77 hf => ?_) (fun c77 hf => ?_)
      · exact z_sub [0, 1, 2, 3, 4, 5, 6] rfl (t_X12_goesByParts_86 C hr hk16 _ _ _ _ _ _ _ hf)
      · refine z_aload_n (j := 0) C d_X12_goesByParts_80 rfl ?_
        refine zg_X12_bestRow C rfl tw_1263 d_X12_goesByParts_81 ?_
        refine z_istore (lv' := [(5, aI (gI q61.2 20 52)), (0, aR 20), (1, aI v1), (2, aI v2), (3, aJ v3), (6, aI v6), (7, aJ v7)]) C d_X12_goesByParts_84 (by decide) rfl ?_
        exact z_sub [1, 2, 3, 4, 0, 5, 6] rfl (t_X12_goesByParts_86 C hr hk16 _ _ _ _ _ _ _ hf)
    · refine z_iconst (v := 0) C d_X12_goesByParts_73 (by decide) ?_
      exact r_i C hr (by decide) d_X12_goesByParts_74 hf
  · refine z_goto (tgt := 133) C d_X12_goesByParts_53 (by decide) ?_
    exact z_sub [0, 1, 2, 3, 4, 5] rfl (t_X12_goesByParts_133 C hr hk16 _ _ _ _ _ _ hf)
def f_X12_goesByParts_16B (k16 : Int32 → Int32 → Int64 → Int32 → Int32 → Mem → Option (Int32 × Mem)) (v1 : Int32) (v2 : Int32) (v3 : Int64) (v5 : Int32) (v6 : Int32) (S : Mem) : Option (Int32 × Mem) := (if 10 < v6 then (some (1, S)) else (f_X12_goesByParts_46 k16 v1 v2 v3 v5 v6 (((v3 * (v6.toInt64)) / 10) - ((v3 * (((v6 - 1) : Int32).toInt64)) / 10)) S))
set_option maxRecDepth 20000 in
theorem t_X12_goesByParts_16B {X : MC} {Γ : GG} (C : CX X Γ cX12_goesByParts 9 "TickPoolsModel" 10 291) (hr : X.2.2.2.2.2.2.2.2.1.sig.returnType = some .boolean) {k16 : Int32 → Int32 → Int64 → Int32 → Int32 → Mem → Option (Int32 × Mem)} {q : Int32 × Mem} (hk16 : ∀ (v1 : Int32) (v2 : Int32) (v3 : Int64) (v5 : Int32) (v6 : Int32) (S : Mem), k16 v1 v2 v3 v5 v6 S = some q → ZZ X Γ 9 (QQ X Γ (some (aI q.1)) q.2) S 16 [(0, aR 20), (1, aI v1), (2, aI v2), (3, aJ v3), (5, aI v5), (6, aI v6)] []) (v1 : Int32) (v2 : Int32) (v3 : Int64) (v5 : Int32) (v6 : Int32) (S : Mem) (hf : f_X12_goesByParts_16B k16 v1 v2 v3 v5 v6 S = some q) : ZZ X Γ 9 (QQ X Γ (some (aI q.1)) q.2) S 16 [(0, aR 20), (1, aI v1), (2, aI v2), (3, aJ v3), (5, aI v5), (6, aI v6)] [] := by
  unfold f_X12_goesByParts_16B at hf
  refine z_iload (j := 5) C d_X12_goesByParts_16 rfl ?_
  refine z_bipush (v := 10) C d_X12_goesByParts_18 (by decide) ?_
  refine z_icmp_gt (tgt := 139) C d_X12_goesByParts_20 (by decide) hf (fun c20 hf => ?_) (fun c20 hf => ?_)
  · refine z_iconst (v := 1) C d_X12_goesByParts_139 (by decide) ?_
    exact r_i C hr (by decide) d_X12_goesByParts_140 hf
  · refine z_lload_n (j := 3) C d_X12_goesByParts_23 rfl ?_
    refine z_iload (j := 5) C d_X12_goesByParts_24 rfl ?_
    refine z_i2l C d_X12_goesByParts_26 ?_
    refine z_lmul C d_X12_goesByParts_27 ?_
    refine z_ldc2 (v := 10) C tw_1210 d_X12_goesByParts_28 ?_
    refine z_ldiv C d_X12_goesByParts_31 (by decide) ?_
    refine z_lload_n (j := 3) C d_X12_goesByParts_32 rfl ?_
    refine z_iload (j := 5) C d_X12_goesByParts_33 rfl ?_
    refine z_iconst (v := 1) C d_X12_goesByParts_35 (by decide) ?_
    refine z_isub C d_X12_goesByParts_36 ?_
    refine z_i2l C d_X12_goesByParts_37 ?_
    refine z_lmul C d_X12_goesByParts_38 ?_
    refine z_ldc2 (v := 10) C tw_1210 d_X12_goesByParts_39 ?_
    refine z_ldiv C d_X12_goesByParts_42 (by decide) ?_
    refine z_lsub C d_X12_goesByParts_43 ?_
    refine z_lstore (lv' := [(7, aJ (((v3 * (v6.toInt64)) / 10) - ((v3 * (((v6 - 1) : Int32).toInt64)) / 10))), (0, aR 20), (1, aI v1), (2, aI v2), (3, aJ v3), (5, aI v5), (6, aI v6)]) C d_X12_goesByParts_44 (by decide) rfl ?_
    exact z_sub [1, 2, 3, 4, 5, 6, 0] rfl (t_X12_goesByParts_46 C hr hk16 _ _ _ _ _ _ _ hf)
def f_X12_goesByParts_16 : Nat → Int32 → Int32 → Int64 → Int32 → Int32 → Mem → Option (Int32 × Mem)
  | 0 => fun _ _ _ _ _ _ => none
  | n + 1 => f_X12_goesByParts_16B (f_X12_goesByParts_16 n)
theorem t_X12_goesByParts_16 {X : MC} {Γ : GG} (C : CX X Γ cX12_goesByParts 9 "TickPoolsModel" 10 291) (hr : X.2.2.2.2.2.2.2.2.1.sig.returnType = some .boolean) {q : Int32 × Mem} : ∀ (n : Nat) (v1 : Int32) (v2 : Int32) (v3 : Int64) (v5 : Int32) (v6 : Int32) (S : Mem) (hf : f_X12_goesByParts_16 n v1 v2 v3 v5 v6 S = some q), ZZ X Γ 9 (QQ X Γ (some (aI q.1)) q.2) S 16 [(0, aR 20), (1, aI v1), (2, aI v2), (3, aJ v3), (5, aI v5), (6, aI v6)] []
  | 0, _, _, _, _, _, _, hf => nomatch (show (none : Option (Int32 × Mem)) = some q from hf)
  | n + 1, v1, v2, v3, v5, v6, S, hf => t_X12_goesByParts_16B C hr (t_X12_goesByParts_16 C hr n) v1 v2 v3 v5 v6 S hf
/-- TickPoolsModel.goesByParts(IIJ)Z -/
def f_X12_goesByParts (p1 : Int32) (p2 : Int32) (p3 : Int64) (S : Mem) : Option (Int32 × Mem) := (f_X12_goesByParts_16  100000 p1 p2 p3 0 1 (sI (sL S 20 53 0) 20 54 0))
set_option maxRecDepth 20000 in
theorem c_X12_goesByParts {l : Launch} {Γ : GG} (hI : Inj Γ) {p1 : Int32} {p2 : Int32} {p3 : Int64} {S : Mem} {q : Int32 × Mem} (hf : f_X12_goesByParts p1 p2 p3 S = some q) : MM l Γ yX12_goesByParts cX12_goesByParts 9 (some .boolean) 10 291 [aR 20, aI p1, aI p2, aJ p3] S (some (aI q.1)) q.2 := by
  refine met_of hI "TickPoolsModel" rfl (by decide +kernel) (Nat.le_of_ble_eq_true rfl) (fun X hX C hr => ?_)
  unfold f_X12_goesByParts at hf
  show ZZ X Γ 9 _ S 0 [(0, aR 20), (1, aI p1), (2, aI p2), (3, aJ p3)] []
  refine z_iconst (v := 0) C d_X12_goesByParts_0 (by decide) ?_
  refine z_istore (lv' := [(5, aI 0), (0, aR 20), (1, aI p1), (2, aI p2), (3, aJ p3)]) C d_X12_goesByParts_1 (by decide) rfl ?_
  refine z_aload_n (j := 1) C d_X12_goesByParts_3 rfl ?_
  refine z_lconst (v := 0) C d_X12_goesByParts_4 (by decide) ?_
  refine zp_X12_partsAll C rfl tw_1264 d_X12_goesByParts_5 ?_
  refine z_aload_n (j := 1) C d_X12_goesByParts_8 rfl ?_
  refine z_iconst (v := 0) C d_X12_goesByParts_9 (by decide) ?_
  refine zp_X12_others C rfl tw_1265 d_X12_goesByParts_10 ?_
  refine z_iconst (v := 1) C d_X12_goesByParts_13 (by decide) ?_
  refine z_istore (lv' := [(6, aI 1), (5, aI 0), (0, aR 20), (1, aI p1), (2, aI p2), (3, aJ p3)]) C d_X12_goesByParts_14 (by decide) rfl ?_
  exact z_sub [2, 3, 4, 5, 1, 0] rfl (t_X12_goesByParts_16 C hr  100000 _ _ _ _ _ _ hf)
theorem d_X12_parts_0 : decode cX12_parts 0 = .ok (.aload_n 0, 1) := by decide +kernel
theorem d_X12_parts_1 : decode cX12_parts 1 = .ok (.iload_n 1, 1) := by decide +kernel
theorem d_X12_parts_2 : decode cX12_parts 2 = .ok (.iload_n 2, 1) := by decide +kernel
theorem d_X12_parts_3 : decode cX12_parts 3 = .ok (.iload_n 3, 1) := by decide +kernel
theorem d_X12_parts_4 : decode cX12_parts 4 = .ok (.invokevirtual 549, 3) := by decide +kernel
theorem d_X12_parts_7 : decode cX12_parts 7 = .ok (.ifCond .eq 14, 3) := by decide +kernel
theorem d_X12_parts_10 : decode cX12_parts 10 = .ok (.iload 4, 2) := by decide +kernel
theorem d_X12_parts_12 : decode cX12_parts 12 = .ok (.i2l, 1) := by decide +kernel
theorem d_X12_parts_13 : decode cX12_parts 13 = .ok (.lconst 0, 1) := by decide +kernel
theorem d_X12_parts_14 : decode cX12_parts 14 = .ok (.lconst 1, 1) := by decide +kernel
theorem d_X12_parts_15 : decode cX12_parts 15 = .ok (.invokestatic 137, 3) := by decide +kernel
theorem d_X12_parts_18 : decode cX12_parts 18 = .ok (.ifCond .ne 5, 3) := by decide +kernel
theorem d_X12_parts_21 : decode cX12_parts 21 = .ok (.iconst (-1), 1) := by decide +kernel
theorem d_X12_parts_22 : decode cX12_parts 22 = .ok (.ireturn, 1) := by decide +kernel
theorem d_X12_parts_23 : decode cX12_parts 23 = .ok (.aload_n 0, 1) := by decide +kernel
theorem d_X12_parts_24 : decode cX12_parts 24 = .ok (.iconst 1, 1) := by decide +kernel
theorem d_X12_parts_25 : decode cX12_parts 25 = .ok (.invokevirtual 401, 3) := by decide +kernel
theorem d_X12_parts_28 : decode cX12_parts 28 = .ok (.aload_n 0, 1) := by decide +kernel
theorem d_X12_parts_29 : decode cX12_parts 29 = .ok (.iload_n 1, 1) := by decide +kernel
theorem d_X12_parts_30 : decode cX12_parts 30 = .ok (.iload_n 2, 1) := by decide +kernel
theorem d_X12_parts_31 : decode cX12_parts 31 = .ok (.iload_n 3, 1) := by decide +kernel
theorem d_X12_parts_32 : decode cX12_parts 32 = .ok (.i2l, 1) := by decide +kernel
theorem d_X12_parts_33 : decode cX12_parts 33 = .ok (.invokevirtual 564, 3) := by decide +kernel
theorem d_X12_parts_36 : decode cX12_parts 36 = .ok (.istore 5, 2) := by decide +kernel
theorem d_X12_parts_38 : decode cX12_parts 38 = .ok (.aload_n 0, 1) := by decide +kernel
theorem d_X12_parts_39 : decode cX12_parts 39 = .ok (.iconst 1, 1) := by decide +kernel
theorem d_X12_parts_40 : decode cX12_parts 40 = .ok (.invokevirtual 407, 3) := by decide +kernel
theorem d_X12_parts_43 : decode cX12_parts 43 = .ok (.iload 5, 2) := by decide +kernel
theorem d_X12_parts_45 : decode cX12_parts 45 = .ok (.ifCond .ne 8, 3) := by decide +kernel
theorem d_X12_parts_48 : decode cX12_parts 48 = .ok (.bipush (-2), 2) := by decide +kernel
theorem d_X12_parts_50 : decode cX12_parts 50 = .ok (.goto 20, 3) := by decide +kernel
theorem d_X12_parts_53 : decode cX12_parts 53 = .ok (.iload 4, 2) := by decide +kernel
theorem d_X12_parts_55 : decode cX12_parts 55 = .ok (.ifCond .ne 11, 3) := by decide +kernel
theorem d_X12_parts_58 : decode cX12_parts 58 = .ok (.aload_n 0, 1) := by decide +kernel
theorem d_X12_parts_59 : decode cX12_parts 59 = .ok (.getfield 555, 3) := by decide +kernel
theorem d_X12_parts_62 : decode cX12_parts 62 = .ok (.l2i, 1) := by decide +kernel
theorem d_X12_parts_63 : decode cX12_parts 63 = .ok (.goto 7, 3) := by decide +kernel
theorem d_X12_parts_66 : decode cX12_parts 66 = .ok (.aload_n 0, 1) := by decide +kernel
theorem d_X12_parts_67 : decode cX12_parts 67 = .ok (.getfield 558, 3) := by decide +kernel
theorem d_X12_parts_70 : decode cX12_parts 70 = .ok (.ireturn, 1) := by decide +kernel
def f_X12_parts_21 (S : Mem) : Option (Int32 × Mem) := (some ((-1), S))
set_option maxRecDepth 20000 in
theorem t_X12_parts_21 {X : MC} {Γ : GG} (C : CX X Γ cX12_parts 6 "TickPoolsModel" 11 319) (hr : X.2.2.2.2.2.2.2.2.1.sig.returnType = some .int) {q : Int32 × Mem} (S : Mem) (hf : f_X12_parts_21 S = some q) : ZZ X Γ 6 (QQ X Γ (some (aI q.1)) q.2) S 21 [] [] := by
  unfold f_X12_parts_21 at hf
  refine z_iconst (v := (-1)) C d_X12_parts_21 (by decide) ?_
  exact r_i C hr rfl d_X12_parts_22 hf
def f_X12_parts_70 (s0 : Int32) (S : Mem) : Option (Int32 × Mem) := (some (s0, S))
set_option maxRecDepth 20000 in
theorem t_X12_parts_70 {X : MC} {Γ : GG} (C : CX X Γ cX12_parts 6 "TickPoolsModel" 11 319) (hr : X.2.2.2.2.2.2.2.2.1.sig.returnType = some .int) {q : Int32 × Mem} (s0 : Int32) (S : Mem) (hf : f_X12_parts_70 s0 S = some q) : ZZ X Γ 6 (QQ X Γ (some (aI q.1)) q.2) S 70 [] [aI s0] := by
  unfold f_X12_parts_70 at hf
  exact r_i C hr rfl d_X12_parts_70 hf
/-- TickPoolsModel.parts(IIII)I -/
def f_X12_parts (p1 : Int32) (p2 : Int32) (p3 : Int32) (p4 : Int32) (S : Mem) : Option (Int32 × Mem) := ((f_X12_isWay p1 p2 p3 S).bind fun q4 => (if q4.1 = 0 then (f_X12_parts_21  q4.2) else ((f_X12_isIn (p4.toInt64) 0 1 q4.2).bind fun q15 => (if q15.1 = 0 then (f_X12_parts_21  q15.2) else ((f_X12_keeps 1 q15.2).bind fun q25 => ((f_X12_goesByParts p1 p2 (p3.toInt64) q25.2).bind fun q33 => ((f_X12_laysBack 1 q33.2).bind fun q40 => (if q33.1 = 0 then (f_X12_parts_70  (-2) q40.2) else (if p4 = 0 then (f_X12_parts_70  (((gL q40.2 20 53) : Int64).toInt32) q40.2) else (f_X12_parts_70  (gI q40.2 20 54) q40.2))))))))))
set_option maxRecDepth 20000 in
theorem c_X12_parts {l : Launch} {Γ : GG} (hI : Inj Γ) {p1 : Int32} {p2 : Int32} {p3 : Int32} {p4 : Int32} {S : Mem} {q : Int32 × Mem} (hf : f_X12_parts p1 p2 p3 p4 S = some q) : MM l Γ yX12_parts cX12_parts 6 (some .int) 11 319 [aR 20, aI p1, aI p2, aI p3, aI p4] S (some (aI q.1)) q.2 := by
  refine met_of hI "TickPoolsModel" rfl (by decide +kernel) (Nat.le_of_ble_eq_true rfl) (fun X hX C hr => ?_)
  unfold f_X12_parts at hf
  show ZZ X Γ 6 _ S 0 [(0, aR 20), (1, aI p1), (2, aI p2), (3, aI p3), (4, aI p4)] []
  refine z_aload_n (j := 0) C d_X12_parts_0 rfl ?_
  refine z_iload_n (j := 1) C d_X12_parts_1 rfl ?_
  refine z_iload_n (j := 2) C d_X12_parts_2 rfl ?_
  refine z_iload_n (j := 3) C d_X12_parts_3 rfl ?_
  obtain ⟨q4, hF, hf⟩ := bd hf
  refine z_callV1 (rest := []) C [aI p1, aI p2, aI p3] rfl (by decide) rfl rfl k_X12_isWay tw_1832 ⟨by decide, by decide⟩ (Nat.le_of_ble_eq_true rfl) d_X12_parts_4 (c_X12_isWay C.inj hF) rfl ?_
  refine z_if_eq (tgt := 21) C d_X12_parts_7 (by decide) hf (fun c7 hf => ?_) (fun c7 hf => ?_)
  · exact z_sub [] rfl (t_X12_parts_21 C hr  _ hf)
  · refine z_iload (j := 4) C d_X12_parts_10 rfl ?_
    refine z_i2l C d_X12_parts_12 ?_
    refine z_lconst (v := 0) C d_X12_parts_13 (by decide) ?_
    refine z_lconst (v := 1) C d_X12_parts_14 (by decide) ?_
    obtain ⟨q15, hF, hf⟩ := bd hf
    refine z_callS1 (rest := []) C [aJ (p4.toInt64), aJ 0, aJ 1] k_X12_isIn tw_1385 ⟨by decide, by decide⟩ (Nat.le_of_ble_eq_true rfl) d_X12_parts_15 (c_X12_isIn C.inj hF) rfl ?_
    refine z_if_ne (tgt := 23) C d_X12_parts_18 (by decide) hf (fun c18 hf => ?_) (fun c18 hf => ?_)
    · refine z_aload_n (j := 0) C d_X12_parts_23 rfl ?_
      refine z_iconst (v := 1) C d_X12_parts_24 (by decide) ?_
      obtain ⟨q25, hF, hf⟩ := bd hf
      refine z_callV0 (rest := []) C [aI 1] rfl (by decide) rfl rfl k_X12_keeps tw_1670 ⟨by decide, by decide⟩ (Nat.le_of_ble_eq_true rfl) d_X12_parts_25 (c_X12_keeps C.inj hF) rfl ?_
      refine z_aload_n (j := 0) C d_X12_parts_28 rfl ?_
      refine z_iload_n (j := 1) C d_X12_parts_29 rfl ?_
      refine z_iload_n (j := 2) C d_X12_parts_30 rfl ?_
      refine z_iload_n (j := 3) C d_X12_parts_31 rfl ?_
      refine z_i2l C d_X12_parts_32 ?_
      obtain ⟨q33, hF, hf⟩ := bd hf
      refine z_callV1 (rest := []) C [aI p1, aI p2, aJ (p3.toInt64)] rfl (by decide) rfl rfl k_X12_goesByParts tw_1858 ⟨by decide, by decide⟩ (Nat.le_of_ble_eq_true rfl) d_X12_parts_33 (c_X12_goesByParts C.inj hF) rfl ?_
      refine z_istore (lv' := [(5, aI q33.1), (0, aR 20), (1, aI p1), (2, aI p2), (3, aI p3), (4, aI p4)]) C d_X12_parts_36 (by decide) rfl ?_
      refine z_aload_n (j := 1) C d_X12_parts_38 rfl ?_
      refine z_iconst (v := 1) C d_X12_parts_39 (by decide) ?_
      obtain ⟨q40, hF, hf⟩ := bd hf
      refine z_callV0 (rest := []) C [aI 1] rfl (by decide) rfl rfl k_X12_laysBack tw_1677 ⟨by decide, by decide⟩ (Nat.le_of_ble_eq_true rfl) d_X12_parts_40 (c_X12_laysBack C.inj hF) rfl ?_
      refine z_iload (j := 0) C d_X12_parts_43 rfl ?_
      refine z_if_ne (tgt := 53) C d_X12_parts_45 (by decide) hf (fun c45 hf => ?_) (fun c45 hf => ?_)
      · refine z_iload (j := 5) C d_X12_parts_53 rfl ?_
        refine z_if_ne (tgt := 66) C d_X12_parts_55 (by decide) hf (fun c55 hf => ?_) (fun c55 hf => ?_)
        · refine z_aload_n (j := 1) C d_X12_parts_66 rfl ?_
          refine zg_X12_others C rfl tw_1265 d_X12_parts_67 ?_
          exact z_sub [] rfl (t_X12_parts_70 C hr  _ _ hf)
        · refine z_aload_n (j := 1) C d_X12_parts_58 rfl ?_
          refine zg_X12_partsAll C rfl tw_1264 d_X12_parts_59 ?_
          refine z_l2i C d_X12_parts_62 ?_
          refine z_goto (tgt := 70) C d_X12_parts_63 (by decide) ?_
          exact z_sub [] rfl (t_X12_parts_70 C hr  _ _ hf)
      · refine z_bipush (v := (-2)) C d_X12_parts_48 (by decide) ?_
        refine z_goto (tgt := 70) C d_X12_parts_50 (by decide) ?_
        exact z_sub [] rfl (t_X12_parts_70 C hr  _ _ hf)
    · exact z_sub [] rfl (t_X12_parts_21 C hr  _ hf)
theorem d_X12_ring_0 : decode cX12_ring 0 = .ok (.aload_n 0, 1) := by decide +kernel
theorem d_X12_ring_1 : decode cX12_ring 1 = .ok (.iload_n 1, 1) := by decide +kernel
theorem d_X12_ring_2 : decode cX12_ring 2 = .ok (.invokevirtual 475, 3) := by decide +kernel
theorem d_X12_ring_5 : decode cX12_ring 5 = .ok (.ifCond .eq 15, 3) := by decide +kernel
theorem d_X12_ring_8 : decode cX12_ring 8 = .ok (.iload_n 2, 1) := by decide +kernel
theorem d_X12_ring_9 : decode cX12_ring 9 = .ok (.i2l, 1) := by decide +kernel
theorem d_X12_ring_10 : decode cX12_ring 10 = .ok (.lconst 0, 1) := by decide +kernel
theorem d_X12_ring_11 : decode cX12_ring 11 = .ok (.ldc2_w 568, 3) := by decide +kernel
theorem d_X12_ring_14 : decode cX12_ring 14 = .ok (.invokestatic 137, 3) := by decide +kernel
theorem d_X12_ring_17 : decode cX12_ring 17 = .ok (.ifCond .ne 5, 3) := by decide +kernel
theorem d_X12_ring_20 : decode cX12_ring 20 = .ok (.iconst (-1), 1) := by decide +kernel
theorem d_X12_ring_21 : decode cX12_ring 21 = .ok (.ireturn, 1) := by decide +kernel
theorem d_X12_ring_22 : decode cX12_ring 22 = .ok (.lconst 0, 1) := by decide +kernel
theorem d_X12_ring_23 : decode cX12_ring 23 = .ok (.lstore_n 3, 1) := by decide +kernel
theorem d_X12_ring_24 : decode cX12_ring 24 = .ok (.iconst 0, 1) := by decide +kernel
theorem d_X12_ring_25 : decode cX12_ring 25 = .ok (.istore 5, 2) := by decide +kernel
theorem d_X12_ring_27 : decode cX12_ring 27 = .ok (.iconst 0, 1) := by decide +kernel
theorem d_X12_ring_28 : decode cX12_ring 28 = .ok (.istore 6, 2) := by decide +kernel
theorem d_X12_ring_30 : decode cX12_ring 30 = .ok (.iconst 1, 1) := by decide +kernel
theorem d_X12_ring_31 : decode cX12_ring 31 = .ok (.istore 7, 2) := by decide +kernel
theorem d_X12_ring_33 : decode cX12_ring 33 = .ok (.iload 7, 2) := by decide +kernel
theorem d_X12_ring_35 : decode cX12_ring 35 = .ok (.sipush 10000, 3) := by decide +kernel
theorem d_X12_ring_38 : decode cX12_ring 38 = .ok (.if_icmp .gt 69, 3) := by decide +kernel
theorem d_X12_ring_41 : decode cX12_ring 41 = .ok (.bipush 6, 2) := by decide +kernel
theorem d_X12_ring_43 : decode cX12_ring 43 = .ok (.istore 8, 2) := by decide +kernel
theorem d_X12_ring_45 : decode cX12_ring 45 = .ok (.iload 8, 2) := by decide +kernel
theorem d_X12_ring_47 : decode cX12_ring 47 = .ok (.sipush 216, 3) := by decide +kernel
theorem d_X12_ring_50 : decode cX12_ring 50 = .ok (.if_icmp .ge 47, 3) := by decide +kernel
theorem d_X12_ring_53 : decode cX12_ring 53 = .ok (.aload_n 0, 1) := by decide +kernel
theorem d_X12_ring_54 : decode cX12_ring 54 = .ok (.iload 8, 2) := by decide +kernel
theorem d_X12_ring_56 : decode cX12_ring 56 = .ok (.iload_n 1, 1) := by decide +kernel
theorem d_X12_ring_57 : decode cX12_ring 57 = .ok (.iload_n 1, 1) := by decide +kernel
theorem d_X12_ring_58 : decode cX12_ring 58 = .ok (.iload 7, 2) := by decide +kernel
theorem d_X12_ring_60 : decode cX12_ring 60 = .ok (.i2l, 1) := by decide +kernel
theorem d_X12_ring_61 : decode cX12_ring 61 = .ok (.invokevirtual 545, 3) := by decide +kernel
theorem d_X12_ring_64 : decode cX12_ring 64 = .ok (.iload 7, 2) := by decide +kernel
theorem d_X12_ring_66 : decode cX12_ring 66 = .ok (.i2l, 1) := by decide +kernel
theorem d_X12_ring_67 : decode cX12_ring 67 = .ok (.lsub, 1) := by decide +kernel
theorem d_X12_ring_68 : decode cX12_ring 68 = .ok (.lstore 9, 2) := by decide +kernel
theorem d_X12_ring_70 : decode cX12_ring 70 = .ok (.lload 9, 2) := by decide +kernel
theorem d_X12_ring_72 : decode cX12_ring 72 = .ok (.lload_n 3, 1) := by decide +kernel
theorem d_X12_ring_73 : decode cX12_ring 73 = .ok (.lcmp, 1) := by decide +kernel
theorem d_X12_ring_74 : decode cX12_ring 74 = .ok (.ifCond .gt 6, 3) := by decide +kernel
theorem d_X12_ring_77 : decode cX12_ring 77 = .ok (.goto 14, 3) := by decide +kernel
theorem d_X12_ring_80 : decode cX12_ring 80 = .ok (.lload 9, 2) := by decide +kernel
theorem d_X12_ring_82 : decode cX12_ring 82 = .ok (.lstore_n 3, 1) := by decide +kernel
theorem d_X12_ring_83 : decode cX12_ring 83 = .ok (.iload 7, 2) := by decide +kernel
theorem d_X12_ring_85 : decode cX12_ring 85 = .ok (.istore 5, 2) := by decide +kernel
theorem d_X12_ring_87 : decode cX12_ring 87 = .ok (.iload 8, 2) := by decide +kernel
theorem d_X12_ring_89 : decode cX12_ring 89 = .ok (.istore 6, 2) := by decide +kernel
theorem d_X12_ring_91 : decode cX12_ring 91 = .ok (.iinc 8 1, 3) := by decide +kernel
theorem d_X12_ring_94 : decode cX12_ring 94 = .ok (.goto (-49), 3) := by decide +kernel
theorem d_X12_ring_97 : decode cX12_ring 97 = .ok (.iload 7, 2) := by decide +kernel
theorem d_X12_ring_99 : decode cX12_ring 99 = .ok (.bipush 10, 2) := by decide +kernel
theorem d_X12_ring_101 : decode cX12_ring 101 = .ok (.imul, 1) := by decide +kernel
theorem d_X12_ring_102 : decode cX12_ring 102 = .ok (.istore 7, 2) := by decide +kernel
theorem d_X12_ring_104 : decode cX12_ring 104 = .ok (.goto (-71), 3) := by decide +kernel
theorem d_X12_ring_107 : decode cX12_ring 107 = .ok (.lload_n 3, 1) := by decide +kernel
theorem d_X12_ring_108 : decode cX12_ring 108 = .ok (.lconst 0, 1) := by decide +kernel
theorem d_X12_ring_109 : decode cX12_ring 109 = .ok (.lcmp, 1) := by decide +kernel
theorem d_X12_ring_110 : decode cX12_ring 110 = .ok (.ifCond .ne 6, 3) := by decide +kernel
theorem d_X12_ring_113 : decode cX12_ring 113 = .ok (.bipush (-2), 2) := by decide +kernel
theorem d_X12_ring_115 : decode cX12_ring 115 = .ok (.ireturn, 1) := by decide +kernel
theorem d_X12_ring_116 : decode cX12_ring 116 = .ok (.iload_n 2, 1) := by decide +kernel
theorem d_X12_ring_117 : decode cX12_ring 117 = .ok (.ifCond .ne 6, 3) := by decide +kernel
theorem d_X12_ring_120 : decode cX12_ring 120 = .ok (.lload_n 3, 1) := by decide +kernel
theorem d_X12_ring_121 : decode cX12_ring 121 = .ok (.l2i, 1) := by decide +kernel
theorem d_X12_ring_122 : decode cX12_ring 122 = .ok (.ireturn, 1) := by decide +kernel
theorem d_X12_ring_123 : decode cX12_ring 123 = .ok (.iload_n 2, 1) := by decide +kernel
theorem d_X12_ring_124 : decode cX12_ring 124 = .ok (.iconst 1, 1) := by decide +kernel
theorem d_X12_ring_125 : decode cX12_ring 125 = .ok (.if_icmp .ne 6, 3) := by decide +kernel
theorem d_X12_ring_128 : decode cX12_ring 128 = .ok (.iload 5, 2) := by decide +kernel
theorem d_X12_ring_130 : decode cX12_ring 130 = .ok (.ireturn, 1) := by decide +kernel
theorem d_X12_ring_131 : decode cX12_ring 131 = .ok (.iload_n 2, 1) := by decide +kernel
theorem d_X12_ring_132 : decode cX12_ring 132 = .ok (.iconst 2, 1) := by decide +kernel
theorem d_X12_ring_133 : decode cX12_ring 133 = .ok (.if_icmp .ne 9, 3) := by decide +kernel
theorem d_X12_ring_136 : decode cX12_ring 136 = .ok (.iload 6, 2) := by decide +kernel
theorem d_X12_ring_138 : decode cX12_ring 138 = .ok (.invokestatic 530, 3) := by decide +kernel
theorem d_X12_ring_141 : decode cX12_ring 141 = .ok (.ireturn, 1) := by decide +kernel
theorem d_X12_ring_142 : decode cX12_ring 142 = .ok (.iload_n 2, 1) := by decide +kernel
theorem d_X12_ring_143 : decode cX12_ring 143 = .ok (.iconst 3, 1) := by decide +kernel
theorem d_X12_ring_144 : decode cX12_ring 144 = .ok (.isub, 1) := by decide +kernel
theorem d_X12_ring_145 : decode cX12_ring 145 = .ok (.iload 6, 2) := by decide +kernel
theorem d_X12_ring_147 : decode cX12_ring 147 = .ok (.invokestatic 530, 3) := by decide +kernel
theorem d_X12_ring_150 : decode cX12_ring 150 = .ok (.if_icmp .ge 14, 3) := by decide +kernel
theorem d_X12_ring_153 : decode cX12_ring 153 = .ok (.iload 6, 2) := by decide +kernel
theorem d_X12_ring_155 : decode cX12_ring 155 = .ok (.iload_n 2, 1) := by decide +kernel
theorem d_X12_ring_156 : decode cX12_ring 156 = .ok (.iconst 3, 1) := by decide +kernel
theorem d_X12_ring_157 : decode cX12_ring 157 = .ok (.isub, 1) := by decide +kernel
theorem d_X12_ring_158 : decode cX12_ring 158 = .ok (.invokestatic 533, 3) := by decide +kernel
theorem d_X12_ring_161 : decode cX12_ring 161 = .ok (.goto 5, 3) := by decide +kernel
theorem d_X12_ring_164 : decode cX12_ring 164 = .ok (.bipush (-2), 2) := by decide +kernel
theorem d_X12_ring_166 : decode cX12_ring 166 = .ok (.ireturn, 1) := by decide +kernel
def f_X12_ring_20 (S : Mem) : Option (Int32 × Mem) := (some ((-1), S))
set_option maxRecDepth 20000 in
theorem t_X12_ring_20 {X : MC} {Γ : GG} (C : CX X Γ cX12_ring 11 "TickPoolsModel" 9 264) (hr : X.2.2.2.2.2.2.2.2.1.sig.returnType = some .int) {q : Int32 × Mem} (S : Mem) (hf : f_X12_ring_20 S = some q) : ZZ X Γ 11 (QQ X Γ (some (aI q.1)) q.2) S 20 [] [] := by
  unfold f_X12_ring_20 at hf
  refine z_iconst (v := (-1)) C d_X12_ring_20 (by decide) ?_
  exact r_i C hr rfl d_X12_ring_21 hf
def f_X12_ring_91 (k33 : Int32 → Int32 → Int64 → Int32 → Int32 → Int32 → Mem → Option (Int32 × Mem)) (k45 : Int32 → Int32 → Int64 → Int32 → Int32 → Int32 → Int32 → Mem → Option (Int32 × Mem)) (v1 : Int32) (v2 : Int32) (v3 : Int64) (v5 : Int32) (v6 : Int32) (v7 : Int32) (v8 : Int32) (S : Mem) : Option (Int32 × Mem) := (k45 v1 v2 v3 v5 v6 v7 (v8 + 1) S)
set_option maxRecDepth 20000 in
theorem t_X12_ring_91 {X : MC} {Γ : GG} (C : CX X Γ cX12_ring 11 "TickPoolsModel" 9 264) (hr : X.2.2.2.2.2.2.2.2.1.sig.returnType = some .int) {k33 : Int32 → Int32 → Int64 → Int32 → Int32 → Int32 → Mem → Option (Int32 × Mem)} {k45 : Int32 → Int32 → Int64 → Int32 → Int32 → Int32 → Int32 → Mem → Option (Int32 × Mem)} {q : Int32 × Mem} (hk33 : ∀ (v1 : Int32) (v2 : Int32) (v3 : Int64) (v5 : Int32) (v6 : Int32) (v7 : Int32) (S : Mem), k33 v1 v2 v3 v5 v6 v7 S = some q → ZZ X Γ 11 (QQ X Γ (some (aI q.1)) q.2) S 33 [(0, aR 20), (1, aI v1), (2, aI v2), (3, aJ v3), (5, aI v5), (6, aI v6), (7, aI v7)] []) (hk45 : ∀ (v1 : Int32) (v2 : Int32) (v3 : Int64) (v5 : Int32) (v6 : Int32) (v7 : Int32) (v8 : Int32) (S : Mem), k45 v1 v2 v3 v5 v6 v7 v8 S = some q → ZZ X Γ 11 (QQ X Γ (some (aI q.1)) q.2) S 45 [(0, aR 20), (1, aI v1), (2, aI v2), (3, aJ v3), (5, aI v5), (6, aI v6), (7, aI v7), (8, aI v8)] []) (v1 : Int32) (v2 : Int32) (v3 : Int64) (v5 : Int32) (v6 : Int32) (v7 : Int32) (v8 : Int32) (S : Mem) (hf : f_X12_ring_91 k33 k45 v1 v2 v3 v5 v6 v7 v8 S = some q) : ZZ X Γ 11 (QQ X Γ (some (aI q.1)) q.2) S 91 [(0, aR 20), (1, aI v1), (2, aI v2), (3, aJ v3), (5, aI v5), (6, aI v6), (7, aI v7), (8, aI v8)] [] := by
  unfold f_X12_ring_91 at hf
  refine z_iinc (j := 7) (v := (v8 + 1)) (lv' := [(8, aI (v8 + 1)), (0, aR 20), (1, aI v1), (2, aI v2), (3, aJ v3), (5, aI v5), (6, aI v6), (7, aI v7)]) C d_X12_ring_91 rfl rfl (by decide) rfl ?_
  refine z_goto (tgt := 45) C d_X12_ring_94 (by decide) ?_
  exact z_sub [1, 2, 3, 4, 5, 6, 7, 0] rfl (hk45 _ _ _ _ _ _ _ _ hf)
def f_X12_ring_70 (k33 : Int32 → Int32 → Int64 → Int32 → Int32 → Int32 → Mem → Option (Int32 × Mem)) (k45 : Int32 → Int32 → Int64 → Int32 → Int32 → Int32 → Int32 → Mem → Option (Int32 × Mem)) (v1 : Int32) (v2 : Int32) (v3 : Int64) (v5 : Int32) (v6 : Int32) (v7 : Int32) (v8 : Int32) (v9 : Int64) (S : Mem) : Option (Int32 × Mem) := (if v3 < v9 then (f_X12_ring_91 k33 k45 v1 v2 v9 v7 v8 v7 v8 S) else (f_X12_ring_91 k33 k45 v1 v2 v3 v5 v6 v7 v8 S))
set_option maxRecDepth 20000 in
theorem t_X12_ring_70 {X : MC} {Γ : GG} (C : CX X Γ cX12_ring 11 "TickPoolsModel" 9 264) (hr : X.2.2.2.2.2.2.2.2.1.sig.returnType = some .int) {k33 : Int32 → Int32 → Int64 → Int32 → Int32 → Int32 → Mem → Option (Int32 × Mem)} {k45 : Int32 → Int32 → Int64 → Int32 → Int32 → Int32 → Int32 → Mem → Option (Int32 × Mem)} {q : Int32 × Mem} (hk33 : ∀ (v1 : Int32) (v2 : Int32) (v3 : Int64) (v5 : Int32) (v6 : Int32) (v7 : Int32) (S : Mem), k33 v1 v2 v3 v5 v6 v7 S = some q → ZZ X Γ 11 (QQ X Γ (some (aI q.1)) q.2) S 33 [(0, aR 20), (1, aI v1), (2, aI v2), (3, aJ v3), (5, aI v5), (6, aI v6), (7, aI v7)] []) (hk45 : ∀ (v1 : Int32) (v2 : Int32) (v3 : Int64) (v5 : Int32) (v6 : Int32) (v7 : Int32) (v8 : Int32) (S : Mem), k45 v1 v2 v3 v5 v6 v7 v8 S = some q → ZZ X Γ 11 (QQ X Γ (some (aI q.1)) q.2) S 45 [(0, aR 20), (1, aI v1), (2, aI v2), (3, aJ v3), (5, aI v5), (6, aI v6), (7, aI v7), (8, aI v8)] []) (v1 : Int32) (v2 : Int32) (v3 : Int64) (v5 : Int32) (v6 : Int32) (v7 : Int32) (v8 : Int32) (v9 : Int64) (S : Mem) (hf : f_X12_ring_70 k33 k45 v1 v2 v3 v5 v6 v7 v8 v9 S = some q) : ZZ X Γ 11 (QQ X Γ (some (aI q.1)) q.2) S 70 [(0, aR 20), (1, aI v1), (2, aI v2), (3, aJ v3), (5, aI v5), (6, aI v6), (7, aI v7), (8, aI v8), (9, aJ v9)] [] := by
  unfold f_X12_ring_70 at hf
  refine z_lload (j := 8) C d_X12_ring_70 rfl ?_
  refine z_lload_n (j := 3) C d_X12_ring_72 rfl ?_
  refine z_lgt (tgt := 80) C d_X12_ring_73 d_X12_ring_74 (by decide) hf (fun c73 hf => ?_) (fun c73 hf => ?_)
  · refine z_lload (j := 8) C d_X12_ring_80 rfl ?_
    refine z_lstore_n (lv' := [(3, aJ v9), (0, aR 20), (1, aI v1), (2, aI v2), (5, aI v5), (6, aI v6), (7, aI v7), (8, aI v8), (9, aJ v9)]) C d_X12_ring_82 (by decide) rfl ?_
    refine z_iload (j := 6) C d_X12_ring_83 rfl ?_
    refine z_istore (lv' := [(5, aI v7), (3, aJ v9), (0, aR 20), (1, aI v1), (2, aI v2), (6, aI v6), (7, aI v7), (8, aI v8), (9, aJ v9)]) C d_X12_ring_85 (by decide) rfl ?_
    refine z_iload (j := 7) C d_X12_ring_87 rfl ?_
    refine z_istore (lv' := [(6, aI v8), (5, aI v7), (3, aJ v9), (0, aR 20), (1, aI v1), (2, aI v2), (7, aI v7), (8, aI v8), (9, aJ v9)]) C d_X12_ring_89 (by decide) rfl ?_
    exact z_sub [3, 4, 5, 2, 1, 0, 6, 7] rfl (t_X12_ring_91 C hr hk33 hk45 _ _ _ _ _ _ _ _ hf)
  · refine z_goto (tgt := 91) C d_X12_ring_77 (by decide) ?_
    exact z_sub [0, 1, 2, 3, 4, 5, 6, 7] rfl (t_X12_ring_91 C hr hk33 hk45 _ _ _ _ _ _ _ _ hf)
def f_X12_ring_45B (k33 : Int32 → Int32 → Int64 → Int32 → Int32 → Int32 → Mem → Option (Int32 × Mem)) (k45 : Int32 → Int32 → Int64 → Int32 → Int32 → Int32 → Int32 → Mem → Option (Int32 × Mem)) (v1 : Int32) (v2 : Int32) (v3 : Int64) (v5 : Int32) (v6 : Int32) (v7 : Int32) (v8 : Int32) (S : Mem) : Option (Int32 × Mem) := (if 216 ≤ v8 then (k33 v1 v2 v3 v5 v6 (v7 * 10) S) else ((f_X12_along v8 v1 v1 (v7.toInt64) S).bind fun q61 => (f_X12_ring_70 k33 k45 v1 v2 v3 v5 v6 v7 v8 (q61.1 - (v7.toInt64)) q61.2)))
set_option maxRecDepth 20000 in
theorem t_X12_ring_45B {X : MC} {Γ : GG} (C : CX X Γ cX12_ring 11 "TickPoolsModel" 9 264) (hr : X.2.2.2.2.2.2.2.2.1.sig.returnType = some .int) {k33 : Int32 → Int32 → Int64 → Int32 → Int32 → Int32 → Mem → Option (Int32 × Mem)} {k45 : Int32 → Int32 → Int64 → Int32 → Int32 → Int32 → Int32 → Mem → Option (Int32 × Mem)} {q : Int32 × Mem} (hk33 : ∀ (v1 : Int32) (v2 : Int32) (v3 : Int64) (v5 : Int32) (v6 : Int32) (v7 : Int32) (S : Mem), k33 v1 v2 v3 v5 v6 v7 S = some q → ZZ X Γ 11 (QQ X Γ (some (aI q.1)) q.2) S 33 [(0, aR 20), (1, aI v1), (2, aI v2), (3, aJ v3), (5, aI v5), (6, aI v6), (7, aI v7)] []) (hk45 : ∀ (v1 : Int32) (v2 : Int32) (v3 : Int64) (v5 : Int32) (v6 : Int32) (v7 : Int32) (v8 : Int32) (S : Mem), k45 v1 v2 v3 v5 v6 v7 v8 S = some q → ZZ X Γ 11 (QQ X Γ (some (aI q.1)) q.2) S 45 [(0, aR 20), (1, aI v1), (2, aI v2), (3, aJ v3), (5, aI v5), (6, aI v6), (7, aI v7), (8, aI v8)] []) (v1 : Int32) (v2 : Int32) (v3 : Int64) (v5 : Int32) (v6 : Int32) (v7 : Int32) (v8 : Int32) (S : Mem) (hf : f_X12_ring_45B k33 k45 v1 v2 v3 v5 v6 v7 v8 S = some q) : ZZ X Γ 11 (QQ X Γ (some (aI q.1)) q.2) S 45 [(0, aR 20), (1, aI v1), (2, aI v2), (3, aJ v3), (5, aI v5), (6, aI v6), (7, aI v7), (8, aI v8)] [] := by
  unfold f_X12_ring_45B at hf
  refine z_iload (j := 7) C d_X12_ring_45 rfl ?_
  refine z_sipush (v := 216) C d_X12_ring_47 (by decide) ?_
  refine z_icmp_ge (tgt := 97) C d_X12_ring_50 (by decide) hf (fun c50 hf => ?_) (fun c50 hf => ?_)
  · refine z_iload (j := 6) C d_X12_ring_97 rfl ?_
    refine z_bipush (v := 10) C d_X12_ring_99 (by decide) ?_
    refine z_imul C d_X12_ring_101 ?_
    refine z_istore (lv' := [(7, aI (v7 * 10)), (0, aR 20), (1, aI v1), (2, aI v2), (3, aJ v3), (5, aI v5), (6, aI v6), (8, aI v8)]) C d_X12_ring_102 (by decide) rfl ?_
    refine z_goto (tgt := 33) C d_X12_ring_104 (by decide) ?_
    exact z_sub [1, 2, 3, 4, 5, 6, 0] rfl (hk33 _ _ _ _ _ _ _ hf)
  · refine z_aload_n (j := 0) C d_X12_ring_53 rfl ?_
    refine z_iload (j := 7) C d_X12_ring_54 rfl ?_
    refine z_iload_n (j := 1) C d_X12_ring_56 rfl ?_
    refine z_iload_n (j := 1) C d_X12_ring_57 rfl ?_
    refine z_iload (j := 6) C d_X12_ring_58 rfl ?_
    refine z_i2l C d_X12_ring_60 ?_
    obtain ⟨q61, hF, hf⟩ := bd hf
    refine z_callV1 (rest := []) C [aI v8, aI v1, aI v1, aJ (v7.toInt64)] rfl (by decide) rfl rfl k_X12_along tw_1840 ⟨by decide, by decide⟩ (Nat.le_of_ble_eq_true rfl) d_X12_ring_61 (c_X12_along C.inj hF) rfl ?_
    refine z_iload (j := 6) C d_X12_ring_64 rfl ?_
    refine z_i2l C d_X12_ring_66 ?_
    refine z_lsub C d_X12_ring_67 ?_
    refine z_lstore (lv' := [(9, aJ (q61.1 - (v7.toInt64))), (0, aR 20), (1, aI v1), (2, aI v2), (3, aJ v3), (5, aI v5), (6, aI v6), (7, aI v7), (8, aI v8)]) C d_X12_ring_68 (by decide) rfl ?_
    exact z_sub [1, 2, 3, 4, 5, 6, 7, 8, 0] rfl (t_X12_ring_70 C hr hk33 hk45 _ _ _ _ _ _ _ _ _ hf)
def f_X12_ring_45 (k33 : Int32 → Int32 → Int64 → Int32 → Int32 → Int32 → Mem → Option (Int32 × Mem)) : Nat → Int32 → Int32 → Int64 → Int32 → Int32 → Int32 → Int32 → Mem → Option (Int32 × Mem)
  | 0 => fun _ _ _ _ _ _ _ _ => none
  | n + 1 => f_X12_ring_45B k33 (f_X12_ring_45 k33 n)
theorem t_X12_ring_45 {X : MC} {Γ : GG} (C : CX X Γ cX12_ring 11 "TickPoolsModel" 9 264) (hr : X.2.2.2.2.2.2.2.2.1.sig.returnType = some .int) {k33 : Int32 → Int32 → Int64 → Int32 → Int32 → Int32 → Mem → Option (Int32 × Mem)} {q : Int32 × Mem} (hk33 : ∀ (v1 : Int32) (v2 : Int32) (v3 : Int64) (v5 : Int32) (v6 : Int32) (v7 : Int32) (S : Mem), k33 v1 v2 v3 v5 v6 v7 S = some q → ZZ X Γ 11 (QQ X Γ (some (aI q.1)) q.2) S 33 [(0, aR 20), (1, aI v1), (2, aI v2), (3, aJ v3), (5, aI v5), (6, aI v6), (7, aI v7)] []) : ∀ (n : Nat) (v1 : Int32) (v2 : Int32) (v3 : Int64) (v5 : Int32) (v6 : Int32) (v7 : Int32) (v8 : Int32) (S : Mem) (hf : f_X12_ring_45 k33 n v1 v2 v3 v5 v6 v7 v8 S = some q), ZZ X Γ 11 (QQ X Γ (some (aI q.1)) q.2) S 45 [(0, aR 20), (1, aI v1), (2, aI v2), (3, aJ v3), (5, aI v5), (6, aI v6), (7, aI v7), (8, aI v8)] []
  | 0, _, _, _, _, _, _, _, _, hf => nomatch (show (none : Option (Int32 × Mem)) = some q from hf)
  | n + 1, v1, v2, v3, v5, v6, v7, v8, S, hf => t_X12_ring_45B C hr hk33 (t_X12_ring_45 C hr hk33 n) v1 v2 v3 v5 v6 v7 v8 S hf
def f_X12_ring_166 (s0 : Int32) (S : Mem) : Option (Int32 × Mem) := (some (s0, S))
set_option maxRecDepth 20000 in
theorem t_X12_ring_166 {X : MC} {Γ : GG} (C : CX X Γ cX12_ring 11 "TickPoolsModel" 9 264) (hr : X.2.2.2.2.2.2.2.2.1.sig.returnType = some .int) {q : Int32 × Mem} (s0 : Int32) (S : Mem) (hf : f_X12_ring_166 s0 S = some q) : ZZ X Γ 11 (QQ X Γ (some (aI q.1)) q.2) S 166 [] [aI s0] := by
  unfold f_X12_ring_166 at hf
  exact r_i C hr rfl d_X12_ring_166 hf
def f_X12_ring_33B (k33 : Int32 → Int32 → Int64 → Int32 → Int32 → Int32 → Mem → Option (Int32 × Mem)) (v1 : Int32) (v2 : Int32) (v3 : Int64) (v5 : Int32) (v6 : Int32) (v7 : Int32) (S : Mem) : Option (Int32 × Mem) := (if 10000 < v7 then (if v3 = 0 then (some ((-2), S)) else (if v2 = 0 then (some (((v3 : Int64).toInt32), S)) else (if v2 = 1 then (some (v5, S)) else (if v2 = 2 then ((f_X12_lengthOf v6 S).bind fun q138 => (some (q138.1, q138.2))) else ((f_X12_lengthOf v6 S).bind fun q147 => (if q147.1 ≤ (v2 - 3) then (f_X12_ring_166  (-2) q147.2) else ((f_X12_poolIn v6 (v2 - 3) q147.2).bind fun q158 => (f_X12_ring_166  q158.1 q158.2)))))))) else (f_X12_ring_45 k33 100000 v1 v2 v3 v5 v6 v7 6 S))
set_option maxRecDepth 20000 in
theorem t_X12_ring_33B {X : MC} {Γ : GG} (C : CX X Γ cX12_ring 11 "TickPoolsModel" 9 264) (hr : X.2.2.2.2.2.2.2.2.1.sig.returnType = some .int) {k33 : Int32 → Int32 → Int64 → Int32 → Int32 → Int32 → Mem → Option (Int32 × Mem)} {q : Int32 × Mem} (hk33 : ∀ (v1 : Int32) (v2 : Int32) (v3 : Int64) (v5 : Int32) (v6 : Int32) (v7 : Int32) (S : Mem), k33 v1 v2 v3 v5 v6 v7 S = some q → ZZ X Γ 11 (QQ X Γ (some (aI q.1)) q.2) S 33 [(0, aR 20), (1, aI v1), (2, aI v2), (3, aJ v3), (5, aI v5), (6, aI v6), (7, aI v7)] []) (v1 : Int32) (v2 : Int32) (v3 : Int64) (v5 : Int32) (v6 : Int32) (v7 : Int32) (S : Mem) (hf : f_X12_ring_33B k33 v1 v2 v3 v5 v6 v7 S = some q) : ZZ X Γ 11 (QQ X Γ (some (aI q.1)) q.2) S 33 [(0, aR 20), (1, aI v1), (2, aI v2), (3, aJ v3), (5, aI v5), (6, aI v6), (7, aI v7)] [] := by
  unfold f_X12_ring_33B at hf
  refine z_iload (j := 6) C d_X12_ring_33 rfl ?_
  refine z_sipush (v := 10000) C d_X12_ring_35 (by decide) ?_
  refine z_icmp_gt (tgt := 107) C d_X12_ring_38 (by decide) hf (fun c38 hf => ?_) (fun c38 hf => ?_)
  · refine z_lload_n (j := 3) C d_X12_ring_107 rfl ?_
    refine z_lconst (v := 0) C d_X12_ring_108 (by decide) ?_
    refine z_lne (tgt := 116) C d_X12_ring_109 d_X12_ring_110 (by decide) hf (fun c109 hf => ?_) (fun c109 hf => ?_)
    · refine z_iload_n (j := 2) C d_X12_ring_116 rfl ?_
      refine z_if_ne (tgt := 123) C d_X12_ring_117 (by decide) hf (fun c117 hf => ?_) (fun c117 hf => ?_)
      · refine z_iload_n (j := 2) C d_X12_ring_123 rfl ?_
        refine z_iconst (v := 1) C d_X12_ring_124 (by decide) ?_
        refine z_icmp_ne (tgt := 131) C d_X12_ring_125 (by decide) hf (fun c125 hf => ?_) (fun c125 hf => ?_)
        · refine z_iload_n (j := 2) C d_X12_ring_131 rfl ?_
          refine z_iconst (v := 2) C d_X12_ring_132 (by decide) ?_
          refine z_icmp_ne (tgt := 142) C d_X12_ring_133 (by decide) hf (fun c133 hf => ?_) (fun c133 hf => ?_)
          · refine z_iload_n (j := 2) C d_X12_ring_142 rfl ?_
            refine z_iconst (v := 3) C d_X12_ring_143 (by decide) ?_
            refine z_isub C d_X12_ring_144 ?_
            refine z_iload (j := 5) C d_X12_ring_145 rfl ?_
            obtain ⟨q147, hF, hf⟩ := bd hf
            refine z_callS1 (rest := [aI (v2 - 3)]) C [aI v6] k_X12_lengthOf tw_1844 ⟨by decide, by decide⟩ (Nat.le_of_ble_eq_true rfl) d_X12_ring_147 (c_X12_lengthOf C.inj hF) rfl ?_
            refine z_icmp_ge (tgt := 164) C d_X12_ring_150 (by decide) hf (fun c150 hf => ?_) (fun c150 hf => ?_)
            · refine z_bipush (v := (-2)) C d_X12_ring_164 (by decide) ?_
              exact z_sub [] rfl (t_X12_ring_166 C hr  _ _ hf)
            · refine z_iload (j := 5) C d_X12_ring_153 rfl ?_
              refine z_iload_n (j := 2) C d_X12_ring_155 rfl ?_
              refine z_iconst (v := 3) C d_X12_ring_156 (by decide) ?_
              refine z_isub C d_X12_ring_157 ?_
              obtain ⟨q158, hF, hf⟩ := bd hf
              refine z_callS1 (rest := []) C [aI v6, aI (v2 - 3)] k_X12_poolIn tw_1847 ⟨by decide, by decide⟩ (Nat.le_of_ble_eq_true rfl) d_X12_ring_158 (c_X12_poolIn C.inj hF) rfl ?_
              refine z_goto (tgt := 166) C d_X12_ring_161 (by decide) ?_
              exact z_sub [] rfl (t_X12_ring_166 C hr  _ _ hf)
          · refine z_iload (j := 5) C d_X12_ring_136 rfl ?_
            obtain ⟨q138, hF, hf⟩ := bd hf
            refine z_callS1 (rest := []) C [aI v6] k_X12_lengthOf tw_1844 ⟨by decide, by decide⟩ (Nat.le_of_ble_eq_true rfl) d_X12_ring_138 (c_X12_lengthOf C.inj hF) rfl ?_
            exact r_i C hr rfl d_X12_ring_141 hf
        · refine z_iload (j := 4) C d_X12_ring_128 rfl ?_
          exact r_i C hr rfl d_X12_ring_130 hf
      · refine z_lload_n (j := 3) C d_X12_ring_120 rfl ?_
        refine z_l2i C d_X12_ring_121 ?_
        exact r_i C hr rfl d_X12_ring_122 hf
    · refine z_bipush (v := (-2)) C d_X12_ring_113 (by decide) ?_
      exact r_i C hr rfl d_X12_ring_115 hf
  · refine z_bipush (v := 6) C d_X12_ring_41 (by decide) ?_
    refine z_istore (lv' := [(8, aI 6), (0, aR 20), (1, aI v1), (2, aI v2), (3, aJ v3), (5, aI v5), (6, aI v6), (7, aI v7)]) C d_X12_ring_43 (by decide) rfl ?_
    exact z_sub [1, 2, 3, 4, 5, 6, 7, 0] rfl (t_X12_ring_45 C hr hk33 100000 _ _ _ _ _ _ _ _ hf)
def f_X12_ring_33 : Nat → Int32 → Int32 → Int64 → Int32 → Int32 → Int32 → Mem → Option (Int32 × Mem)
  | 0 => fun _ _ _ _ _ _ _ => none
  | n + 1 => f_X12_ring_33B (f_X12_ring_33 n)
theorem t_X12_ring_33 {X : MC} {Γ : GG} (C : CX X Γ cX12_ring 11 "TickPoolsModel" 9 264) (hr : X.2.2.2.2.2.2.2.2.1.sig.returnType = some .int) {q : Int32 × Mem} : ∀ (n : Nat) (v1 : Int32) (v2 : Int32) (v3 : Int64) (v5 : Int32) (v6 : Int32) (v7 : Int32) (S : Mem) (hf : f_X12_ring_33 n v1 v2 v3 v5 v6 v7 S = some q), ZZ X Γ 11 (QQ X Γ (some (aI q.1)) q.2) S 33 [(0, aR 20), (1, aI v1), (2, aI v2), (3, aJ v3), (5, aI v5), (6, aI v6), (7, aI v7)] []
  | 0, _, _, _, _, _, _, _, hf => nomatch (show (none : Option (Int32 × Mem)) = some q from hf)
  | n + 1, v1, v2, v3, v5, v6, v7, S, hf => t_X12_ring_33B C hr (t_X12_ring_33 C hr n) v1 v2 v3 v5 v6 v7 S hf
/-- TickPoolsModel.ring(II)I -/
def f_X12_ring (p1 : Int32) (p2 : Int32) (S : Mem) : Option (Int32 × Mem) := ((f_X12_isThing p1 S).bind fun q2 => (if q2.1 = 0 then (f_X12_ring_20  q2.2) else ((f_X12_isIn (p2.toInt64) 0 5 q2.2).bind fun q14 => (if q14.1 = 0 then (f_X12_ring_20  q14.2) else (f_X12_ring_33  100000 p1 p2 0 0 0 1 q14.2)))))
set_option maxRecDepth 20000 in
theorem c_X12_ring {l : Launch} {Γ : GG} (hI : Inj Γ) {p1 : Int32} {p2 : Int32} {S : Mem} {q : Int32 × Mem} (hf : f_X12_ring p1 p2 S = some q) : MM l Γ yX12_ring cX12_ring 11 (some .int) 9 264 [aR 20, aI p1, aI p2] S (some (aI q.1)) q.2 := by
  refine met_of hI "TickPoolsModel" rfl (by decide +kernel) (Nat.le_of_ble_eq_true rfl) (fun X hX C hr => ?_)
  unfold f_X12_ring at hf
  show ZZ X Γ 11 _ S 0 [(0, aR 20), (1, aI p1), (2, aI p2)] []
  refine z_aload_n (j := 0) C d_X12_ring_0 rfl ?_
  refine z_iload_n (j := 1) C d_X12_ring_1 rfl ?_
  obtain ⟨q2, hF, hf⟩ := bd hf
  refine z_callV1 (rest := []) C [aI p1] rfl (by decide) rfl rfl k_X12_isThing tw_1764 ⟨by decide, by decide⟩ (Nat.le_of_ble_eq_true rfl) d_X12_ring_2 (c_X12_isThing C.inj hF) rfl ?_
  refine z_if_eq (tgt := 20) C d_X12_ring_5 (by decide) hf (fun c5 hf => ?_) (fun c5 hf => ?_)
  · exact z_sub [] rfl (t_X12_ring_20 C hr  _ hf)
  · refine z_iload_n (j := 2) C d_X12_ring_8 rfl ?_
    refine z_i2l C d_X12_ring_9 ?_
    refine z_lconst (v := 0) C d_X12_ring_10 (by decide) ?_
    refine z_ldc2 (v := 5) C tw_1870 d_X12_ring_11 ?_
    obtain ⟨q14, hF, hf⟩ := bd hf
    refine z_callS1 (rest := []) C [aJ (p2.toInt64), aJ 0, aJ 5] k_X12_isIn tw_1385 ⟨by decide, by decide⟩ (Nat.le_of_ble_eq_true rfl) d_X12_ring_14 (c_X12_isIn C.inj hF) rfl ?_
    refine z_if_ne (tgt := 22) C d_X12_ring_17 (by decide) hf (fun c17 hf => ?_) (fun c17 hf => ?_)
    · refine z_lconst (v := 0) C d_X12_ring_22 (by decide) ?_
      refine z_lstore_n (lv' := [(3, aJ 0), (0, aR 20), (1, aI p1), (2, aI p2)]) C d_X12_ring_23 (by decide) rfl ?_
      refine z_iconst (v := 0) C d_X12_ring_24 (by decide) ?_
      refine z_istore (lv' := [(5, aI 0), (3, aJ 0), (0, aR 20), (1, aI p1), (2, aI p2)]) C d_X12_ring_25 (by decide) rfl ?_
      refine z_iconst (v := 0) C d_X12_ring_27 (by decide) ?_
      refine z_istore (lv' := [(6, aI 0), (5, aI 0), (3, aJ 0), (0, aR 20), (1, aI p1), (2, aI p2)]) C d_X12_ring_28 (by decide) rfl ?_
      refine z_iconst (v := 1) C d_X12_ring_30 (by decide) ?_
      refine z_istore (lv' := [(7, aI 1), (6, aI 0), (5, aI 0), (3, aJ 0), (0, aR 20), (1, aI p1), (2, aI p2)]) C d_X12_ring_31 (by decide) rfl ?_
      exact z_sub [4, 5, 6, 3, 2, 1, 0] rfl (t_X12_ring_33 C hr  100000 _ _ _ _ _ _ _ hf)
    · exact z_sub [] rfl (t_X12_ring_20 C hr  _ hf)
theorem d_X12_total_0 : decode cX12_total 0 = .ok (.aload_n 0, 1) := by decide +kernel
theorem d_X12_total_1 : decode cX12_total 1 = .ok (.iload_n 1, 1) := by decide +kernel
theorem d_X12_total_2 : decode cX12_total 2 = .ok (.invokevirtual 475, 3) := by decide +kernel
theorem d_X12_total_5 : decode cX12_total 5 = .ok (.ifCond .ne 5, 3) := by decide +kernel
theorem d_X12_total_8 : decode cX12_total 8 = .ok (.iconst (-1), 1) := by decide +kernel
theorem d_X12_total_9 : decode cX12_total 9 = .ok (.ireturn, 1) := by decide +kernel
theorem d_X12_total_10 : decode cX12_total 10 = .ok (.lconst 0, 1) := by decide +kernel
theorem d_X12_total_11 : decode cX12_total 11 = .ok (.lstore_n 2, 1) := by decide +kernel
theorem d_X12_total_12 : decode cX12_total 12 = .ok (.iconst 0, 1) := by decide +kernel
theorem d_X12_total_13 : decode cX12_total 13 = .ok (.istore 4, 2) := by decide +kernel
theorem d_X12_total_15 : decode cX12_total 15 = .ok (.iload 4, 2) := by decide +kernel
theorem d_X12_total_17 : decode cX12_total 17 = .ok (.aload_n 0, 1) := by decide +kernel
theorem d_X12_total_18 : decode cX12_total 18 = .ok (.getfield 124, 3) := by decide +kernel
theorem d_X12_total_21 : decode cX12_total 21 = .ok (.if_icmp .ge 19, 3) := by decide +kernel
theorem d_X12_total_24 : decode cX12_total 24 = .ok (.lload_n 2, 1) := by decide +kernel
theorem d_X12_total_25 : decode cX12_total 25 = .ok (.aload_n 0, 1) := by decide +kernel
theorem d_X12_total_26 : decode cX12_total 26 = .ok (.iload 4, 2) := by decide +kernel
theorem d_X12_total_28 : decode cX12_total 28 = .ok (.iload_n 1, 1) := by decide +kernel
theorem d_X12_total_29 : decode cX12_total 29 = .ok (.invokevirtual 300, 3) := by decide +kernel
theorem d_X12_total_32 : decode cX12_total 32 = .ok (.ladd, 1) := by decide +kernel
theorem d_X12_total_33 : decode cX12_total 33 = .ok (.lstore_n 2, 1) := by decide +kernel
theorem d_X12_total_34 : decode cX12_total 34 = .ok (.iinc 4 1, 3) := by decide +kernel
theorem d_X12_total_37 : decode cX12_total 37 = .ok (.goto (-22), 3) := by decide +kernel
theorem d_X12_total_40 : decode cX12_total 40 = .ok (.iconst 0, 1) := by decide +kernel
theorem d_X12_total_41 : decode cX12_total 41 = .ok (.istore 4, 2) := by decide +kernel
theorem d_X12_total_43 : decode cX12_total 43 = .ok (.iload 4, 2) := by decide +kernel
theorem d_X12_total_45 : decode cX12_total 45 = .ok (.aload_n 0, 1) := by decide +kernel
theorem d_X12_total_46 : decode cX12_total 46 = .ok (.getfield 120, 3) := by decide +kernel
theorem d_X12_total_49 : decode cX12_total 49 = .ok (.if_icmp .ge 53, 3) := by decide +kernel
theorem d_X12_total_52 : decode cX12_total 52 = .ok (.iconst 0, 1) := by decide +kernel
theorem d_X12_total_53 : decode cX12_total 53 = .ok (.istore 5, 2) := by decide +kernel
theorem d_X12_total_55 : decode cX12_total 55 = .ok (.iload 5, 2) := by decide +kernel
theorem d_X12_total_57 : decode cX12_total 57 = .ok (.iconst 2, 1) := by decide +kernel
theorem d_X12_total_58 : decode cX12_total 58 = .ok (.if_icmp .ge 38, 3) := by decide +kernel
theorem d_X12_total_61 : decode cX12_total 61 = .ok (.lload_n 2, 1) := by decide +kernel
theorem d_X12_total_62 : decode cX12_total 62 = .ok (.aload_n 0, 1) := by decide +kernel
theorem d_X12_total_63 : decode cX12_total 63 = .ok (.iload 4, 2) := by decide +kernel
theorem d_X12_total_65 : decode cX12_total 65 = .ok (.iload 5, 2) := by decide +kernel
theorem d_X12_total_67 : decode cX12_total 67 = .ok (.invokevirtual 256, 3) := by decide +kernel
theorem d_X12_total_70 : decode cX12_total 70 = .ok (.iload_n 1, 1) := by decide +kernel
theorem d_X12_total_71 : decode cX12_total 71 = .ok (.if_icmp .ne 16, 3) := by decide +kernel
theorem d_X12_total_74 : decode cX12_total 74 = .ok (.aload_n 0, 1) := by decide +kernel
theorem d_X12_total_75 : decode cX12_total 75 = .ok (.iload 4, 2) := by decide +kernel
theorem d_X12_total_77 : decode cX12_total 77 = .ok (.iconst 2, 1) := by decide +kernel
theorem d_X12_total_78 : decode cX12_total 78 = .ok (.iload 5, 2) := by decide +kernel
theorem d_X12_total_80 : decode cX12_total 80 = .ok (.iadd, 1) := by decide +kernel
theorem d_X12_total_81 : decode cX12_total 81 = .ok (.invokevirtual 116, 3) := by decide +kernel
theorem d_X12_total_84 : decode cX12_total 84 = .ok (.goto 4, 3) := by decide +kernel
theorem d_X12_total_87 : decode cX12_total 87 = .ok (.lconst 0, 1) := by decide +kernel
theorem d_X12_total_88 : decode cX12_total 88 = .ok (.ladd, 1) := by decide +kernel
theorem d_X12_total_89 : decode cX12_total 89 = .ok (.lstore_n 2, 1) := by decide +kernel
theorem d_X12_total_90 : decode cX12_total 90 = .ok (.iinc 5 1, 3) := by decide +kernel
theorem d_X12_total_93 : decode cX12_total 93 = .ok (.goto (-38), 3) := by decide +kernel
theorem d_X12_total_96 : decode cX12_total 96 = .ok (.iinc 4 1, 3) := by decide +kernel
theorem d_X12_total_99 : decode cX12_total 99 = .ok (.goto (-56), 3) := by decide +kernel
theorem d_X12_total_102 : decode cX12_total 102 = .ok (.lload_n 2, 1) := by decide +kernel
theorem d_X12_total_103 : decode cX12_total 103 = .ok (.l2i, 1) := by decide +kernel
theorem d_X12_total_104 : decode cX12_total 104 = .ok (.ireturn, 1) := by decide +kernel
def f_X12_total_34 (k15 : Int32 → Int64 → Int32 → Mem → Option (Int32 × Mem)) (v1 : Int32) (v2 : Int64) (v4 : Int32) (S : Mem) : Option (Int32 × Mem) := (k15 v1 v2 (v4 + 1) S)
set_option maxRecDepth 20000 in
theorem t_X12_total_34 {X : MC} {Γ : GG} (C : CX X Γ cX12_total 6 "TickPoolsModel" 1 22) (hr : X.2.2.2.2.2.2.2.2.1.sig.returnType = some .int) {k15 : Int32 → Int64 → Int32 → Mem → Option (Int32 × Mem)} {q : Int32 × Mem} (hk15 : ∀ (v1 : Int32) (v2 : Int64) (v4 : Int32) (S : Mem), k15 v1 v2 v4 S = some q → ZZ X Γ 6 (QQ X Γ (some (aI q.1)) q.2) S 15 [(0, aR 20), (1, aI v1), (2, aJ v2), (4, aI v4)] []) (v1 : Int32) (v2 : Int64) (v4 : Int32) (S : Mem) (hf : f_X12_total_34 k15 v1 v2 v4 S = some q) : ZZ X Γ 6 (QQ X Γ (some (aI q.1)) q.2) S 34 [(0, aR 20), (1, aI v1), (2, aJ v2), (4, aI v4)] [] := by
  unfold f_X12_total_34 at hf
  refine z_iinc (j := 3) (v := (v4 + 1)) (lv' := [(4, aI (v4 + 1)), (0, aR 20), (1, aI v1), (2, aJ v2)]) C d_X12_total_34 rfl rfl (by decide) rfl ?_
  refine z_goto (tgt := 15) C d_X12_total_37 (by decide) ?_
  exact z_sub [1, 2, 3, 0] rfl (hk15 _ _ _ _ hf)
def f_X12_total_90 (k43 : Int32 → Int64 → Int32 → Mem → Option (Int32 × Mem)) (k55 : Int32 → Int64 → Int32 → Int32 → Mem → Option (Int32 × Mem)) (v1 : Int32) (v2 : Int64) (v4 : Int32) (v5 : Int32) (S : Mem) : Option (Int32 × Mem) := (k55 v1 v2 v4 (v5 + 1) S)
set_option maxRecDepth 20000 in
theorem t_X12_total_90 {X : MC} {Γ : GG} (C : CX X Γ cX12_total 6 "TickPoolsModel" 1 22) (hr : X.2.2.2.2.2.2.2.2.1.sig.returnType = some .int) {k43 : Int32 → Int64 → Int32 → Mem → Option (Int32 × Mem)} {k55 : Int32 → Int64 → Int32 → Int32 → Mem → Option (Int32 × Mem)} {q : Int32 × Mem} (hk43 : ∀ (v1 : Int32) (v2 : Int64) (v4 : Int32) (S : Mem), k43 v1 v2 v4 S = some q → ZZ X Γ 6 (QQ X Γ (some (aI q.1)) q.2) S 43 [(0, aR 20), (1, aI v1), (2, aJ v2), (4, aI v4)] []) (hk55 : ∀ (v1 : Int32) (v2 : Int64) (v4 : Int32) (v5 : Int32) (S : Mem), k55 v1 v2 v4 v5 S = some q → ZZ X Γ 6 (QQ X Γ (some (aI q.1)) q.2) S 55 [(0, aR 20), (1, aI v1), (2, aJ v2), (4, aI v4), (5, aI v5)] []) (v1 : Int32) (v2 : Int64) (v4 : Int32) (v5 : Int32) (S : Mem) (hf : f_X12_total_90 k43 k55 v1 v2 v4 v5 S = some q) : ZZ X Γ 6 (QQ X Γ (some (aI q.1)) q.2) S 90 [(0, aR 20), (1, aI v1), (2, aJ v2), (4, aI v4), (5, aI v5)] [] := by
  unfold f_X12_total_90 at hf
  refine z_iinc (j := 4) (v := (v5 + 1)) (lv' := [(5, aI (v5 + 1)), (0, aR 20), (1, aI v1), (2, aJ v2), (4, aI v4)]) C d_X12_total_90 rfl rfl (by decide) rfl ?_
  refine z_goto (tgt := 55) C d_X12_total_93 (by decide) ?_
  exact z_sub [1, 2, 3, 4, 0] rfl (hk55 _ _ _ _ _ hf)
def f_X12_total_88 (k43 : Int32 → Int64 → Int32 → Mem → Option (Int32 × Mem)) (k55 : Int32 → Int64 → Int32 → Int32 → Mem → Option (Int32 × Mem)) (v1 : Int32) (v4 : Int32) (v5 : Int32) (s0 : Int64) (s1 : Int64) (S : Mem) : Option (Int32 × Mem) := (f_X12_total_90 k43 k55 v1 (s1 + s0) v4 v5 S)
set_option maxRecDepth 20000 in
theorem t_X12_total_88 {X : MC} {Γ : GG} (C : CX X Γ cX12_total 6 "TickPoolsModel" 1 22) (hr : X.2.2.2.2.2.2.2.2.1.sig.returnType = some .int) {k43 : Int32 → Int64 → Int32 → Mem → Option (Int32 × Mem)} {k55 : Int32 → Int64 → Int32 → Int32 → Mem → Option (Int32 × Mem)} {q : Int32 × Mem} (hk43 : ∀ (v1 : Int32) (v2 : Int64) (v4 : Int32) (S : Mem), k43 v1 v2 v4 S = some q → ZZ X Γ 6 (QQ X Γ (some (aI q.1)) q.2) S 43 [(0, aR 20), (1, aI v1), (2, aJ v2), (4, aI v4)] []) (hk55 : ∀ (v1 : Int32) (v2 : Int64) (v4 : Int32) (v5 : Int32) (S : Mem), k55 v1 v2 v4 v5 S = some q → ZZ X Γ 6 (QQ X Γ (some (aI q.1)) q.2) S 55 [(0, aR 20), (1, aI v1), (2, aJ v2), (4, aI v4), (5, aI v5)] []) (v1 : Int32) (v4 : Int32) (v5 : Int32) (s0 : Int64) (s1 : Int64) (S : Mem) (hf : f_X12_total_88 k43 k55 v1 v4 v5 s0 s1 S = some q) : ZZ X Γ 6 (QQ X Γ (some (aI q.1)) q.2) S 88 [(0, aR 20), (1, aI v1), (4, aI v4), (5, aI v5)] [aJ s0, aJ s1] := by
  unfold f_X12_total_88 at hf
  refine z_ladd C d_X12_total_88 ?_
  refine z_lstore_n (lv' := [(2, aJ (s1 + s0)), (0, aR 20), (1, aI v1), (4, aI v4), (5, aI v5)]) C d_X12_total_89 (by decide) rfl ?_
  exact z_sub [1, 2, 0, 3, 4] rfl (t_X12_total_90 C hr hk43 hk55 _ _ _ _ _ hf)
def f_X12_total_55B (k43 : Int32 → Int64 → Int32 → Mem → Option (Int32 × Mem)) (k55 : Int32 → Int64 → Int32 → Int32 → Mem → Option (Int32 × Mem)) (v1 : Int32) (v2 : Int64) (v4 : Int32) (v5 : Int32) (S : Mem) : Option (Int32 × Mem) := (if 2 ≤ v5 then (k43 v1 v2 (v4 + 1) S) else ((f_X12_thingOf v4 v5 S).bind fun q67 => (if q67.1 = v1 then ((f_X12_ofPool v4 (2 + v5) q67.2).bind fun q81 => (f_X12_total_88 k43 k55 v1 v4 v5 q81.1 v2 q81.2)) else (f_X12_total_88 k43 k55 v1 v4 v5 0 v2 q67.2))))
set_option maxRecDepth 20000 in
theorem t_X12_total_55B {X : MC} {Γ : GG} (C : CX X Γ cX12_total 6 "TickPoolsModel" 1 22) (hr : X.2.2.2.2.2.2.2.2.1.sig.returnType = some .int) {k43 : Int32 → Int64 → Int32 → Mem → Option (Int32 × Mem)} {k55 : Int32 → Int64 → Int32 → Int32 → Mem → Option (Int32 × Mem)} {q : Int32 × Mem} (hk43 : ∀ (v1 : Int32) (v2 : Int64) (v4 : Int32) (S : Mem), k43 v1 v2 v4 S = some q → ZZ X Γ 6 (QQ X Γ (some (aI q.1)) q.2) S 43 [(0, aR 20), (1, aI v1), (2, aJ v2), (4, aI v4)] []) (hk55 : ∀ (v1 : Int32) (v2 : Int64) (v4 : Int32) (v5 : Int32) (S : Mem), k55 v1 v2 v4 v5 S = some q → ZZ X Γ 6 (QQ X Γ (some (aI q.1)) q.2) S 55 [(0, aR 20), (1, aI v1), (2, aJ v2), (4, aI v4), (5, aI v5)] []) (v1 : Int32) (v2 : Int64) (v4 : Int32) (v5 : Int32) (S : Mem) (hf : f_X12_total_55B k43 k55 v1 v2 v4 v5 S = some q) : ZZ X Γ 6 (QQ X Γ (some (aI q.1)) q.2) S 55 [(0, aR 20), (1, aI v1), (2, aJ v2), (4, aI v4), (5, aI v5)] [] := by
  unfold f_X12_total_55B at hf
  refine z_iload (j := 4) C d_X12_total_55 rfl ?_
  refine z_iconst (v := 2) C d_X12_total_57 (by decide) ?_
  refine z_icmp_ge (tgt := 96) C d_X12_total_58 (by decide) hf (fun c58 hf => ?_) (fun c58 hf => ?_)
  · refine z_iinc (j := 3) (v := (v4 + 1)) (lv' := [(4, aI (v4 + 1)), (0, aR 20), (1, aI v1), (2, aJ v2), (5, aI v5)]) C d_X12_total_96 rfl rfl (by decide) rfl ?_
    refine z_goto (tgt := 43) C d_X12_total_99 (by decide) ?_
    exact z_sub [1, 2, 3, 0] rfl (hk43 _ _ _ _ hf)
  · refine z_lload_n (j := 2) C d_X12_total_61 rfl ?_
    refine z_aload_n (j := 0) C d_X12_total_62 rfl ?_
    refine z_iload (j := 3) C d_X12_total_63 rfl ?_
    refine z_iload (j := 4) C d_X12_total_65 rfl ?_
    obtain ⟨q67, hF, hf⟩ := bd hf
    refine z_callV1 (rest := [aJ v2]) C [aI v4, aI v5] rfl (by decide) rfl rfl k_X12_thingOf tw_1517 ⟨by decide, by decide⟩ (Nat.le_of_ble_eq_true rfl) d_X12_total_67 (c_X12_thingOf C.inj hF) rfl ?_
    refine z_iload_n (j := 1) C d_X12_total_70 rfl ?_
    refine z_icmp_ne (tgt := 87) C d_X12_total_71 (by decide) hf (fun c71 hf => ?_) (fun c71 hf => ?_)
    · refine z_lconst (v := 0) C d_X12_total_87 (by decide) ?_
      exact z_sub [0, 1, 3, 4] rfl (t_X12_total_88 C hr hk43 hk55 _ _ _ _ _ _ hf)
    · refine z_aload_n (j := 0) C d_X12_total_74 rfl ?_
      refine z_iload (j := 3) C d_X12_total_75 rfl ?_
      refine z_iconst (v := 2) C d_X12_total_77 (by decide) ?_
      refine z_iload (j := 4) C d_X12_total_78 rfl ?_
      refine z_iadd C d_X12_total_80 ?_
      obtain ⟨q81, hF, hf⟩ := bd hf
      refine z_callV1 (rest := [aJ v2]) C [aI v4, aI (2 + v5)] rfl (by decide) rfl rfl k_X12_ofPool tw_1503 ⟨by decide, by decide⟩ (Nat.le_of_ble_eq_true rfl) d_X12_total_81 (c_X12_ofPool C.inj hF) rfl ?_
      refine z_goto (tgt := 88) C d_X12_total_84 (by decide) ?_
      exact z_sub [0, 1, 3, 4] rfl (t_X12_total_88 C hr hk43 hk55 _ _ _ _ _ _ hf)
def f_X12_total_55 (k43 : Int32 → Int64 → Int32 → Mem → Option (Int32 × Mem)) : Nat → Int32 → Int64 → Int32 → Int32 → Mem → Option (Int32 × Mem)
  | 0 => fun _ _ _ _ _ => none
  | n + 1 => f_X12_total_55B k43 (f_X12_total_55 k43 n)
theorem t_X12_total_55 {X : MC} {Γ : GG} (C : CX X Γ cX12_total 6 "TickPoolsModel" 1 22) (hr : X.2.2.2.2.2.2.2.2.1.sig.returnType = some .int) {k43 : Int32 → Int64 → Int32 → Mem → Option (Int32 × Mem)} {q : Int32 × Mem} (hk43 : ∀ (v1 : Int32) (v2 : Int64) (v4 : Int32) (S : Mem), k43 v1 v2 v4 S = some q → ZZ X Γ 6 (QQ X Γ (some (aI q.1)) q.2) S 43 [(0, aR 20), (1, aI v1), (2, aJ v2), (4, aI v4)] []) : ∀ (n : Nat) (v1 : Int32) (v2 : Int64) (v4 : Int32) (v5 : Int32) (S : Mem) (hf : f_X12_total_55 k43 n v1 v2 v4 v5 S = some q), ZZ X Γ 6 (QQ X Γ (some (aI q.1)) q.2) S 55 [(0, aR 20), (1, aI v1), (2, aJ v2), (4, aI v4), (5, aI v5)] []
  | 0, _, _, _, _, _, hf => nomatch (show (none : Option (Int32 × Mem)) = some q from hf)
  | n + 1, v1, v2, v4, v5, S, hf => t_X12_total_55B C hr hk43 (t_X12_total_55 C hr hk43 n) v1 v2 v4 v5 S hf
def f_X12_total_43B (k43 : Int32 → Int64 → Int32 → Mem → Option (Int32 × Mem)) (v1 : Int32) (v2 : Int64) (v4 : Int32) (S : Mem) : Option (Int32 × Mem) := (if (gI S 20 3) ≤ v4 then (some (((v2 : Int64).toInt32), S)) else (f_X12_total_55 k43 100000 v1 v2 v4 0 S))
set_option maxRecDepth 20000 in
theorem t_X12_total_43B {X : MC} {Γ : GG} (C : CX X Γ cX12_total 6 "TickPoolsModel" 1 22) (hr : X.2.2.2.2.2.2.2.2.1.sig.returnType = some .int) {k43 : Int32 → Int64 → Int32 → Mem → Option (Int32 × Mem)} {q : Int32 × Mem} (hk43 : ∀ (v1 : Int32) (v2 : Int64) (v4 : Int32) (S : Mem), k43 v1 v2 v4 S = some q → ZZ X Γ 6 (QQ X Γ (some (aI q.1)) q.2) S 43 [(0, aR 20), (1, aI v1), (2, aJ v2), (4, aI v4)] []) (v1 : Int32) (v2 : Int64) (v4 : Int32) (S : Mem) (hf : f_X12_total_43B k43 v1 v2 v4 S = some q) : ZZ X Γ 6 (QQ X Γ (some (aI q.1)) q.2) S 43 [(0, aR 20), (1, aI v1), (2, aJ v2), (4, aI v4)] [] := by
  unfold f_X12_total_43B at hf
  refine z_iload (j := 3) C d_X12_total_43 rfl ?_
  refine z_aload_n (j := 0) C d_X12_total_45 rfl ?_
  refine zg_X12_pools C rfl tw_1214 d_X12_total_46 ?_
  refine z_icmp_ge (tgt := 102) C d_X12_total_49 (by decide) hf (fun c49 hf => ?_) (fun c49 hf => ?_)
  · refine z_lload_n (j := 2) C d_X12_total_102 rfl ?_
    refine z_l2i C d_X12_total_103 ?_
    exact r_i C hr rfl d_X12_total_104 hf
  · refine z_iconst (v := 0) C d_X12_total_52 (by decide) ?_
    refine z_istore (lv' := [(5, aI 0), (0, aR 20), (1, aI v1), (2, aJ v2), (4, aI v4)]) C d_X12_total_53 (by decide) rfl ?_
    exact z_sub [1, 2, 3, 4, 0] rfl (t_X12_total_55 C hr hk43 100000 _ _ _ _ _ hf)
def f_X12_total_43 : Nat → Int32 → Int64 → Int32 → Mem → Option (Int32 × Mem)
  | 0 => fun _ _ _ _ => none
  | n + 1 => f_X12_total_43B (f_X12_total_43 n)
theorem t_X12_total_43 {X : MC} {Γ : GG} (C : CX X Γ cX12_total 6 "TickPoolsModel" 1 22) (hr : X.2.2.2.2.2.2.2.2.1.sig.returnType = some .int) {q : Int32 × Mem} : ∀ (n : Nat) (v1 : Int32) (v2 : Int64) (v4 : Int32) (S : Mem) (hf : f_X12_total_43 n v1 v2 v4 S = some q), ZZ X Γ 6 (QQ X Γ (some (aI q.1)) q.2) S 43 [(0, aR 20), (1, aI v1), (2, aJ v2), (4, aI v4)] []
  | 0, _, _, _, _, hf => nomatch (show (none : Option (Int32 × Mem)) = some q from hf)
  | n + 1, v1, v2, v4, S, hf => t_X12_total_43B C hr (t_X12_total_43 C hr n) v1 v2 v4 S hf
def f_X12_total_15B (k15 : Int32 → Int64 → Int32 → Mem → Option (Int32 × Mem)) (v1 : Int32) (v2 : Int64) (v4 : Int32) (S : Mem) : Option (Int32 × Mem) := (if (gI S 20 2) ≤ v4 then (f_X12_total_43  100000 v1 v2 0 S) else ((f_X12_inPurse v4 v1 S).bind fun q29 => (f_X12_total_34 k15 v1 (v2 + q29.1) v4 q29.2)))
set_option maxRecDepth 20000 in
theorem t_X12_total_15B {X : MC} {Γ : GG} (C : CX X Γ cX12_total 6 "TickPoolsModel" 1 22) (hr : X.2.2.2.2.2.2.2.2.1.sig.returnType = some .int) {k15 : Int32 → Int64 → Int32 → Mem → Option (Int32 × Mem)} {q : Int32 × Mem} (hk15 : ∀ (v1 : Int32) (v2 : Int64) (v4 : Int32) (S : Mem), k15 v1 v2 v4 S = some q → ZZ X Γ 6 (QQ X Γ (some (aI q.1)) q.2) S 15 [(0, aR 20), (1, aI v1), (2, aJ v2), (4, aI v4)] []) (v1 : Int32) (v2 : Int64) (v4 : Int32) (S : Mem) (hf : f_X12_total_15B k15 v1 v2 v4 S = some q) : ZZ X Γ 6 (QQ X Γ (some (aI q.1)) q.2) S 15 [(0, aR 20), (1, aI v1), (2, aJ v2), (4, aI v4)] [] := by
  unfold f_X12_total_15B at hf
  refine z_iload (j := 3) C d_X12_total_15 rfl ?_
  refine z_aload_n (j := 0) C d_X12_total_17 rfl ?_
  refine zg_X12_people C rfl tw_1213 d_X12_total_18 ?_
  refine z_icmp_ge (tgt := 40) C d_X12_total_21 (by decide) hf (fun c21 hf => ?_) (fun c21 hf => ?_)
  · refine z_iconst (v := 0) C d_X12_total_40 (by decide) ?_
    refine z_istore (lv' := [(4, aI 0), (0, aR 20), (1, aI v1), (2, aJ v2)]) C d_X12_total_41 (by decide) rfl ?_
    exact z_sub [1, 2, 3, 0] rfl (t_X12_total_43 C hr  100000 _ _ _ _ hf)
  · refine z_lload_n (j := 2) C d_X12_total_24 rfl ?_
    refine z_aload_n (j := 0) C d_X12_total_25 rfl ?_
    refine z_iload (j := 3) C d_X12_total_26 rfl ?_
    refine z_iload_n (j := 1) C d_X12_total_28 rfl ?_
    obtain ⟨q29, hF, hf⟩ := bd hf
    refine z_callV1 (rest := [aJ v2]) C [aI v4, aI v1] rfl (by decide) rfl rfl k_X12_inPurse tw_1521 ⟨by decide, by decide⟩ (Nat.le_of_ble_eq_true rfl) d_X12_total_29 (c_X12_inPurse C.inj hF) rfl ?_
    refine z_ladd C d_X12_total_32 ?_
    refine z_lstore_n (lv' := [(2, aJ (v2 + q29.1)), (0, aR 20), (1, aI v1), (4, aI v4)]) C d_X12_total_33 (by decide) rfl ?_
    exact z_sub [1, 2, 0, 3] rfl (t_X12_total_34 C hr hk15 _ _ _ _ hf)
def f_X12_total_15 : Nat → Int32 → Int64 → Int32 → Mem → Option (Int32 × Mem)
  | 0 => fun _ _ _ _ => none
  | n + 1 => f_X12_total_15B (f_X12_total_15 n)
theorem t_X12_total_15 {X : MC} {Γ : GG} (C : CX X Γ cX12_total 6 "TickPoolsModel" 1 22) (hr : X.2.2.2.2.2.2.2.2.1.sig.returnType = some .int) {q : Int32 × Mem} : ∀ (n : Nat) (v1 : Int32) (v2 : Int64) (v4 : Int32) (S : Mem) (hf : f_X12_total_15 n v1 v2 v4 S = some q), ZZ X Γ 6 (QQ X Γ (some (aI q.1)) q.2) S 15 [(0, aR 20), (1, aI v1), (2, aJ v2), (4, aI v4)] []
  | 0, _, _, _, _, hf => nomatch (show (none : Option (Int32 × Mem)) = some q from hf)
  | n + 1, v1, v2, v4, S, hf => t_X12_total_15B C hr (t_X12_total_15 C hr n) v1 v2 v4 S hf
/-- TickPoolsModel.total(I)I -/
def f_X12_total (p1 : Int32) (S : Mem) : Option (Int32 × Mem) := ((f_X12_isThing p1 S).bind fun q2 => (if q2.1 = 0 then (some ((-1), q2.2)) else (f_X12_total_15  100000 p1 0 0 q2.2)))
set_option maxRecDepth 20000 in
theorem c_X12_total {l : Launch} {Γ : GG} (hI : Inj Γ) {p1 : Int32} {S : Mem} {q : Int32 × Mem} (hf : f_X12_total p1 S = some q) : MM l Γ yX12_total cX12_total 6 (some .int) 1 22 [aR 20, aI p1] S (some (aI q.1)) q.2 := by
  refine met_of hI "TickPoolsModel" rfl (by decide +kernel) (Nat.le_of_ble_eq_true rfl) (fun X hX C hr => ?_)
  unfold f_X12_total at hf
  show ZZ X Γ 6 _ S 0 [(0, aR 20), (1, aI p1)] []
  refine z_aload_n (j := 0) C d_X12_total_0 rfl ?_
  refine z_iload_n (j := 1) C d_X12_total_1 rfl ?_
  obtain ⟨q2, hF, hf⟩ := bd hf
  refine z_callV1 (rest := []) C [aI p1] rfl (by decide) rfl rfl k_X12_isThing tw_1764 ⟨by decide, by decide⟩ (Nat.le_of_ble_eq_true rfl) d_X12_total_2 (c_X12_isThing C.inj hF) rfl ?_
  refine z_if_ne (tgt := 10) C d_X12_total_5 (by decide) hf (fun c5 hf => ?_) (fun c5 hf => ?_)
  · refine z_lconst (v := 0) C d_X12_total_10 (by decide) ?_
    refine z_lstore_n (lv' := [(2, aJ 0), (0, aR 20), (1, aI p1)]) C d_X12_total_11 (by decide) rfl ?_
    refine z_iconst (v := 0) C d_X12_total_12 (by decide) ?_
    refine z_istore (lv' := [(4, aI 0), (2, aJ 0), (0, aR 20), (1, aI p1)]) C d_X12_total_13 (by decide) rfl ?_
    exact z_sub [2, 3, 1, 0] rfl (t_X12_total_15 C hr  100000 _ _ _ _ hf)
  · refine z_iconst (v := (-1)) C d_X12_total_8 (by decide) ?_
    exact r_i C hr rfl d_X12_total_9 hf
theorem d_X12_count_0 : decode cX12_count 0 = .ok (.iload_n 1, 1) := by decide +kernel
theorem d_X12_count_1 : decode cX12_count 1 = .ok (.tableswitch 84 0 6 #[43, 48, 53, 58, 63, 71, 79], 43) := by decide +kernel
theorem d_X12_count_44 : decode cX12_count 44 = .ok (.aload_n 0, 1) := by decide +kernel
theorem d_X12_count_45 : decode cX12_count 45 = .ok (.getfield 127, 3) := by decide +kernel
theorem d_X12_count_48 : decode cX12_count 48 = .ok (.ireturn, 1) := by decide +kernel
theorem d_X12_count_49 : decode cX12_count 49 = .ok (.aload_n 0, 1) := by decide +kernel
theorem d_X12_count_50 : decode cX12_count 50 = .ok (.getfield 124, 3) := by decide +kernel
theorem d_X12_count_53 : decode cX12_count 53 = .ok (.ireturn, 1) := by decide +kernel
theorem d_X12_count_54 : decode cX12_count 54 = .ok (.aload_n 0, 1) := by decide +kernel
theorem d_X12_count_55 : decode cX12_count 55 = .ok (.getfield 120, 3) := by decide +kernel
theorem d_X12_count_58 : decode cX12_count 58 = .ok (.ireturn, 1) := by decide +kernel
theorem d_X12_count_59 : decode cX12_count 59 = .ok (.aload_n 0, 1) := by decide +kernel
theorem d_X12_count_60 : decode cX12_count 60 = .ok (.invokevirtual 130, 3) := by decide +kernel
theorem d_X12_count_63 : decode cX12_count 63 = .ok (.ireturn, 1) := by decide +kernel
theorem d_X12_count_64 : decode cX12_count 64 = .ok (.aload_n 0, 1) := by decide +kernel
theorem d_X12_count_65 : decode cX12_count 65 = .ok (.getfield 17, 3) := by decide +kernel
theorem d_X12_count_68 : decode cX12_count 68 = .ok (.iconst 0, 1) := by decide +kernel
theorem d_X12_count_69 : decode cX12_count 69 = .ok (.laload, 1) := by decide +kernel
theorem d_X12_count_70 : decode cX12_count 70 = .ok (.l2i, 1) := by decide +kernel
theorem d_X12_count_71 : decode cX12_count 71 = .ok (.ireturn, 1) := by decide +kernel
theorem d_X12_count_72 : decode cX12_count 72 = .ok (.aload_n 0, 1) := by decide +kernel
theorem d_X12_count_73 : decode cX12_count 73 = .ok (.getfield 17, 3) := by decide +kernel
theorem d_X12_count_76 : decode cX12_count 76 = .ok (.iconst 1, 1) := by decide +kernel
theorem d_X12_count_77 : decode cX12_count 77 = .ok (.laload, 1) := by decide +kernel
theorem d_X12_count_78 : decode cX12_count 78 = .ok (.l2i, 1) := by decide +kernel
theorem d_X12_count_79 : decode cX12_count 79 = .ok (.ireturn, 1) := by decide +kernel
theorem d_X12_count_80 : decode cX12_count 80 = .ok (.aload_n 0, 1) := by decide +kernel
theorem d_X12_count_81 : decode cX12_count 81 = .ok (.getfield 134, 3) := by decide +kernel
theorem d_X12_count_84 : decode cX12_count 84 = .ok (.ireturn, 1) := by decide +kernel
theorem d_X12_count_85 : decode cX12_count 85 = .ok (.iconst (-1), 1) := by decide +kernel
theorem d_X12_count_86 : decode cX12_count 86 = .ok (.ireturn, 1) := by decide +kernel
/-- TickPoolsModel.count(I)I -/
def f_X12_count (p1 : Int32) (S : Mem) : Option (Int32 × Mem) := (if p1 = 0 then (some ((gI S 20 1), S)) else (if p1 = 1 then (some ((gI S 20 2), S)) else (if p1 = 2 then (some ((gI S 20 3), S)) else (if p1 = 3 then ((f_X12_stakes S).bind fun q60 => (some (q60.1, q60.2))) else (if p1 = 4 then (some ((((gL S 23 ((0 : Int32).toNatClampNeg)) : Int64).toInt32), S)) else (if p1 = 5 then (some ((((gL S 23 ((1 : Int32).toNatClampNeg)) : Int64).toInt32), S)) else (if p1 = 6 then (some ((gI S 20 8), S)) else (some ((-1), S)))))))))
set_option maxRecDepth 20000 in
theorem c_X12_count {l : Launch} {Γ : GG} (hI : Inj Γ) {p1 : Int32} {S : Mem} {q : Int32 × Mem} (hf : f_X12_count p1 S = some q) : MM l Γ yX12_count cX12_count 2 (some .int) 1 20 [aR 20, aI p1] S (some (aI q.1)) q.2 := by
  refine met_of hI "TickPoolsModel" rfl (by decide +kernel) (Nat.le_of_ble_eq_true rfl) (fun X hX C hr => ?_)
  unfold f_X12_count at hf
  show ZZ X Γ 2 _ S 0 [(0, aR 20), (1, aI p1)] []
  refine z_iload_n (j := 1) C d_X12_count_0 rfl ?_
  by_cases c1_0 : p1 = 0
  · rw [if_pos c1_0] at hf
    refine z_tin (tgt := 44) C d_X12_count_1 (by rw [c1_0]; decide) (by rw [c1_0]; decide) (by rw [c1_0]; rfl) (by decide) ?_
    refine z_aload_n (j := 0) C d_X12_count_44 rfl ?_
    refine zg_X12_things C rfl tw_1212 d_X12_count_45 ?_
    exact r_i C hr rfl d_X12_count_48 hf
  rw [if_neg c1_0] at hf
  have d1_0 := tn (n := 0) c1_0 (by decide)
  by_cases c1_1 : p1 = 1
  · rw [if_pos c1_1] at hf
    refine z_tin (tgt := 49) C d_X12_count_1 (by rw [c1_1]; decide) (by rw [c1_1]; decide) (by rw [c1_1]; rfl) (by decide) ?_
    refine z_aload_n (j := 0) C d_X12_count_49 rfl ?_
    refine zg_X12_people C rfl tw_1213 d_X12_count_50 ?_
    exact r_i C hr rfl d_X12_count_53 hf
  rw [if_neg c1_1] at hf
  have d1_1 := tn (n := 1) c1_1 (by decide)
  by_cases c1_2 : p1 = 2
  · rw [if_pos c1_2] at hf
    refine z_tin (tgt := 54) C d_X12_count_1 (by rw [c1_2]; decide) (by rw [c1_2]; decide) (by rw [c1_2]; rfl) (by decide) ?_
    refine z_aload_n (j := 0) C d_X12_count_54 rfl ?_
    refine zg_X12_pools C rfl tw_1214 d_X12_count_55 ?_
    exact r_i C hr rfl d_X12_count_58 hf
  rw [if_neg c1_2] at hf
  have d1_2 := tn (n := 2) c1_2 (by decide)
  by_cases c1_3 : p1 = 3
  · rw [if_pos c1_3] at hf
    refine z_tin (tgt := 59) C d_X12_count_1 (by rw [c1_3]; decide) (by rw [c1_3]; decide) (by rw [c1_3]; rfl) (by decide) ?_
    refine z_aload_n (j := 0) C d_X12_count_59 rfl ?_
    obtain ⟨q60, hF, hf⟩ := bd hf
    refine z_callV1 (rest := []) C [] rfl (by decide) rfl rfl k_X12_stakes tw_1486 ⟨by decide, by decide⟩ (Nat.le_of_ble_eq_true rfl) d_X12_count_60 (c_X12_stakes C.inj hF) rfl ?_
    exact r_i C hr rfl d_X12_count_63 hf
  rw [if_neg c1_3] at hf
  have d1_3 := tn (n := 3) c1_3 (by decide)
  by_cases c1_4 : p1 = 4
  · rw [if_pos c1_4] at hf
    refine z_tin (tgt := 64) C d_X12_count_1 (by rw [c1_4]; decide) (by rw [c1_4]; decide) (by rw [c1_4]; rfl) (by decide) ?_
    refine z_aload_n (j := 0) C d_X12_count_64 rfl ?_
    refine zg_X12_now C rfl tw_1216 d_X12_count_65 ?_
    refine z_iconst (v := 0) C d_X12_count_68 (by decide) ?_
    refine z_lald C rfl (by decide) d_X12_count_69 ?_
    refine z_l2i C d_X12_count_70 ?_
    exact r_i C hr rfl d_X12_count_71 hf
  rw [if_neg c1_4] at hf
  have d1_4 := tn (n := 4) c1_4 (by decide)
  by_cases c1_5 : p1 = 5
  · rw [if_pos c1_5] at hf
    refine z_tin (tgt := 72) C d_X12_count_1 (by rw [c1_5]; decide) (by rw [c1_5]; decide) (by rw [c1_5]; rfl) (by decide) ?_
    refine z_aload_n (j := 0) C d_X12_count_72 rfl ?_
    refine zg_X12_now C rfl tw_1216 d_X12_count_73 ?_
    refine z_iconst (v := 1) C d_X12_count_76 (by decide) ?_
    refine z_lald C rfl (by decide) d_X12_count_77 ?_
    refine z_l2i C d_X12_count_78 ?_
    exact r_i C hr rfl d_X12_count_79 hf
  rw [if_neg c1_5] at hf
  have d1_5 := tn (n := 5) c1_5 (by decide)
  by_cases c1_6 : p1 = 6
  · rw [if_pos c1_6] at hf
    refine z_tin (tgt := 80) C d_X12_count_1 (by rw [c1_6]; decide) (by rw [c1_6]; decide) (by rw [c1_6]; rfl) (by decide) ?_
    refine z_aload_n (j := 0) C d_X12_count_80 rfl ?_
    refine zg_X12_taped C rfl tw_1219 d_X12_count_81 ?_
    exact r_i C hr rfl d_X12_count_84 hf
  rw [if_neg c1_6] at hf
  have d1_6 := tn (n := 6) c1_6 (by decide)
  refine z_tout (tgt := 85) C d_X12_count_1 (by omega) (by decide) ?_
  refine z_iconst (v := (-1)) C d_X12_count_85 (by decide) ?_
  exact r_i C hr rfl d_X12_count_86 hf
