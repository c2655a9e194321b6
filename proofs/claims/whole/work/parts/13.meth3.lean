theorem d_X11_stake_0 : decode cX11_stake 0 = .ok (.aload_n 0, 1) := by decide +kernel
theorem d_X11_stake_1 : decode cX11_stake 1 = .ok (.getfield 19, 3) := by decide +kernel
theorem d_X11_stake_4 : decode cX11_stake 4 = .ok (.iload_n 1, 1) := by decide +kernel
theorem d_X11_stake_5 : decode cX11_stake 5 = .ok (.invokevirtual 176, 3) := by decide +kernel
theorem d_X11_stake_8 : decode cX11_stake 8 = .ok (.astore_n 3, 1) := by decide +kernel
theorem d_X11_stake_9 : decode cX11_stake 9 = .ok (.aload_n 3, 1) := by decide +kernel
theorem d_X11_stake_10 : decode cX11_stake 10 = .ok (.ifnonnull 7, 3) := by decide +kernel
theorem d_X11_stake_13 : decode cX11_stake 13 = .ok (.aconst_null, 1) := by decide +kernel
theorem d_X11_stake_14 : decode cX11_stake 14 = .ok (.goto 14, 3) := by decide +kernel
theorem d_X11_stake_17 : decode cX11_stake 17 = .ok (.aload_n 0, 1) := by decide +kernel
theorem d_X11_stake_18 : decode cX11_stake 18 = .ok (.getfield 19, 3) := by decide +kernel
theorem d_X11_stake_21 : decode cX11_stake 21 = .ok (.aload_n 3, 1) := by decide +kernel
theorem d_X11_stake_22 : decode cX11_stake 22 = .ok (.getfield 180, 3) := by decide +kernel
theorem d_X11_stake_25 : decode cX11_stake 25 = .ok (.invokevirtual 132, 3) := by decide +kernel
theorem d_X11_stake_28 : decode cX11_stake 28 = .ok (.astore 4, 2) := by decide +kernel
theorem d_X11_stake_30 : decode cX11_stake 30 = .ok (.aload 4, 2) := by decide +kernel
theorem d_X11_stake_32 : decode cX11_stake 32 = .ok (.ifnonnull 5, 3) := by decide +kernel
theorem d_X11_stake_35 : decode cX11_stake 35 = .ok (.iconst (-1), 1) := by decide +kernel
theorem d_X11_stake_36 : decode cX11_stake 36 = .ok (.ireturn, 1) := by decide +kernel
theorem d_X11_stake_37 : decode cX11_stake 37 = .ok (.iload_n 2, 1) := by decide +kernel
theorem d_X11_stake_38 : decode cX11_stake 38 = .ok (.tableswitch 150 0 10 #[58, 63, 68, 73, 78, 83, 88, 103, 118, 125, 132], 58) := by decide +kernel
theorem d_X11_stake_96 : decode cX11_stake 96 = .ok (.aload_n 3, 1) := by decide +kernel
theorem d_X11_stake_97 : decode cX11_stake 97 = .ok (.getfield 185, 3) := by decide +kernel
theorem d_X11_stake_100 : decode cX11_stake 100 = .ok (.ireturn, 1) := by decide +kernel
theorem d_X11_stake_101 : decode cX11_stake 101 = .ok (.aload_n 3, 1) := by decide +kernel
theorem d_X11_stake_102 : decode cX11_stake 102 = .ok (.getfield 180, 3) := by decide +kernel
theorem d_X11_stake_105 : decode cX11_stake 105 = .ok (.ireturn, 1) := by decide +kernel
theorem d_X11_stake_106 : decode cX11_stake 106 = .ok (.aload_n 3, 1) := by decide +kernel
theorem d_X11_stake_107 : decode cX11_stake 107 = .ok (.getfield 188, 3) := by decide +kernel
theorem d_X11_stake_110 : decode cX11_stake 110 = .ok (.ireturn, 1) := by decide +kernel
theorem d_X11_stake_111 : decode cX11_stake 111 = .ok (.aload_n 3, 1) := by decide +kernel
theorem d_X11_stake_112 : decode cX11_stake 112 = .ok (.getfield 191, 3) := by decide +kernel
theorem d_X11_stake_115 : decode cX11_stake 115 = .ok (.ireturn, 1) := by decide +kernel
theorem d_X11_stake_116 : decode cX11_stake 116 = .ok (.aload_n 3, 1) := by decide +kernel
theorem d_X11_stake_117 : decode cX11_stake 117 = .ok (.getfield 194, 3) := by decide +kernel
theorem d_X11_stake_120 : decode cX11_stake 120 = .ok (.ireturn, 1) := by decide +kernel
theorem d_X11_stake_121 : decode cX11_stake 121 = .ok (.aload_n 3, 1) := by decide +kernel
theorem d_X11_stake_122 : decode cX11_stake 122 = .ok (.getfield 197, 3) := by decide +kernel
theorem d_X11_stake_125 : decode cX11_stake 125 = .ok (.ireturn, 1) := by decide +kernel
theorem d_X11_stake_126 : decode cX11_stake 126 = .ok (.aload_n 3, 1) := by decide +kernel
theorem d_X11_stake_127 : decode cX11_stake 127 = .ok (.aload 4, 2) := by decide +kernel
theorem d_X11_stake_129 : decode cX11_stake 129 = .ok (.aload_n 3, 1) := by decide +kernel
theorem d_X11_stake_130 : decode cX11_stake 130 = .ok (.getfield 197, 3) := by decide +kernel
theorem d_X11_stake_133 : decode cX11_stake 133 = .ok (.i2l, 1) := by decide +kernel
theorem d_X11_stake_134 : decode cX11_stake 134 = .ok (.iconst 0, 1) := by decide +kernel
theorem d_X11_stake_135 : decode cX11_stake 135 = .ok (.iconst 0, 1) := by decide +kernel
theorem d_X11_stake_136 : decode cX11_stake 136 = .ok (.invokevirtual 200, 3) := by decide +kernel
theorem d_X11_stake_139 : decode cX11_stake 139 = .ok (.l2i, 1) := by decide +kernel
theorem d_X11_stake_140 : decode cX11_stake 140 = .ok (.ireturn, 1) := by decide +kernel
theorem d_X11_stake_141 : decode cX11_stake 141 = .ok (.aload_n 3, 1) := by decide +kernel
theorem d_X11_stake_142 : decode cX11_stake 142 = .ok (.aload 4, 2) := by decide +kernel
theorem d_X11_stake_144 : decode cX11_stake 144 = .ok (.aload_n 3, 1) := by decide +kernel
theorem d_X11_stake_145 : decode cX11_stake 145 = .ok (.getfield 197, 3) := by decide +kernel
theorem d_X11_stake_148 : decode cX11_stake 148 = .ok (.i2l, 1) := by decide +kernel
theorem d_X11_stake_149 : decode cX11_stake 149 = .ok (.iconst 1, 1) := by decide +kernel
theorem d_X11_stake_150 : decode cX11_stake 150 = .ok (.iconst 0, 1) := by decide +kernel
theorem d_X11_stake_151 : decode cX11_stake 151 = .ok (.invokevirtual 200, 3) := by decide +kernel
theorem d_X11_stake_154 : decode cX11_stake 154 = .ok (.l2i, 1) := by decide +kernel
theorem d_X11_stake_155 : decode cX11_stake 155 = .ok (.ireturn, 1) := by decide +kernel
theorem d_X11_stake_156 : decode cX11_stake 156 = .ok (.aload_n 3, 1) := by decide +kernel
theorem d_X11_stake_157 : decode cX11_stake 157 = .ok (.iconst 0, 1) := by decide +kernel
theorem d_X11_stake_158 : decode cX11_stake 158 = .ok (.invokevirtual 204, 3) := by decide +kernel
theorem d_X11_stake_161 : decode cX11_stake 161 = .ok (.l2i, 1) := by decide +kernel
theorem d_X11_stake_162 : decode cX11_stake 162 = .ok (.ireturn, 1) := by decide +kernel
theorem d_X11_stake_163 : decode cX11_stake 163 = .ok (.aload_n 3, 1) := by decide +kernel
theorem d_X11_stake_164 : decode cX11_stake 164 = .ok (.iconst 1, 1) := by decide +kernel
theorem d_X11_stake_165 : decode cX11_stake 165 = .ok (.invokevirtual 204, 3) := by decide +kernel
theorem d_X11_stake_168 : decode cX11_stake 168 = .ok (.l2i, 1) := by decide +kernel
theorem d_X11_stake_169 : decode cX11_stake 169 = .ok (.ireturn, 1) := by decide +kernel
theorem d_X11_stake_170 : decode cX11_stake 170 = .ok (.aload_n 3, 1) := by decide +kernel
theorem d_X11_stake_171 : decode cX11_stake 171 = .ok (.aload 4, 2) := by decide +kernel
theorem d_X11_stake_173 : decode cX11_stake 173 = .ok (.getfield 153, 3) := by decide +kernel
theorem d_X11_stake_176 : decode cX11_stake 176 = .ok (.invokevirtual 208, 3) := by decide +kernel
theorem d_X11_stake_179 : decode cX11_stake 179 = .ok (.ifCond .eq 7, 3) := by decide +kernel
theorem d_X11_stake_182 : decode cX11_stake 182 = .ok (.iconst 1, 1) := by decide +kernel
theorem d_X11_stake_183 : decode cX11_stake 183 = .ok (.goto 4, 3) := by decide +kernel
theorem d_X11_stake_186 : decode cX11_stake 186 = .ok (.iconst 0, 1) := by decide +kernel
theorem d_X11_stake_187 : decode cX11_stake 187 = .ok (.ireturn, 1) := by decide +kernel
theorem d_X11_stake_188 : decode cX11_stake 188 = .ok (.iconst (-1), 1) := by decide +kernel
theorem d_X11_stake_189 : decode cX11_stake 189 = .ok (.ireturn, 1) := by decide +kernel
def f_X11_stake_187 (s0 : Int32) (S : Mem) : Option (Int32 × Mem) := (some (s0, S))
set_option maxRecDepth 20000 in
theorem t_X11_stake_187 {X : MC} {Γ : GG} (C : CX X Γ cX11_stake 5 "TickPools" 2 63) (hr : X.2.2.2.2.2.2.2.2.1.sig.returnType = some .int) {q : Int32 × Mem} (s0 : Int32) (S : Mem) (hf : f_X11_stake_187 s0 S = some q) : ZZ X Γ 5 (QQ X Γ (some (aI q.1)) q.2) S 187 [] [aI s0] := by
  unfold f_X11_stake_187 at hf
  exact r_i C hr rfl d_X11_stake_187 hf
def f_X11_stake_28 (v2 : Int32) (v3 : Nat) (s0 : Nat) (S : Mem) : Option (Int32 × Mem) := (if s0 = 0 then (some ((-1), S)) else (if v2 = 0 then (if kd v3 = (6, 8) then (some ((gI S v3 0), S)) else none) else (if v2 = 1 then (if kd v3 = (6, 8) then (some ((gI S v3 1), S)) else none) else (if v2 = 2 then (if kd v3 = (6, 8) then (some ((gI S v3 2), S)) else none) else (if v2 = 3 then (if kd v3 = (6, 8) then (some ((gI S v3 3), S)) else none) else (if v2 = 4 then (if kd v3 = (6, 8) then (some ((gI S v3 4), S)) else none) else (if v2 = 5 then (if kd v3 = (6, 8) then (some ((gI S v3 5), S)) else none) else (if v2 = 6 then (if kd v3 = (6, 8) then ((f_X7_liesIn v3 s0 (((gI S v3 5) : Int32).toInt64) 0 0 S).bind fun q136 => (some (((q136.1 : Int64).toInt32), q136.2))) else none) else (if v2 = 7 then (if kd v3 = (6, 8) then ((f_X7_liesIn v3 s0 (((gI S v3 5) : Int32).toInt64) 1 0 S).bind fun q151 => (some (((q151.1 : Int64).toInt32), q151.2))) else none) else (if v2 = 8 then (if kd v3 = (6, 8) then ((f_X7_owed v3 0 S).bind fun q158 => (some (((q158.1 : Int64).toInt32), q158.2))) else none) else (if v2 = 9 then (if kd v3 = (6, 8) then ((f_X7_owed v3 1 S).bind fun q165 => (some (((q165.1 : Int64).toInt32), q165.2))) else none) else (if v2 = 10 then (if kd s0 = (3, 12) then (if kd v3 = (6, 8) then ((f_X7_reaches v3 (gI S s0 6) S).bind fun q176 => (if q176.1 = 0 then (f_X11_stake_187  0 q176.2) else (f_X11_stake_187  1 q176.2))) else none) else none) else (some ((-1), S))))))))))))))
set_option maxRecDepth 20000 in
theorem t_X11_stake_28 {X : MC} {Γ : GG} (C : CX X Γ cX11_stake 5 "TickPools" 2 63) (hr : X.2.2.2.2.2.2.2.2.1.sig.returnType = some .int) {q : Int32 × Mem} (v2 : Int32) (v3 : Nat) (s0 : Nat) (S : Mem) (hf : f_X11_stake_28 v2 v3 s0 S = some q) : ZZ X Γ 5 (QQ X Γ (some (aI q.1)) q.2) S 28 [(2, aI v2), (3, aR v3)] [aR s0] := by
  unfold f_X11_stake_28 at hf
  refine z_astore (lv' := [(4, aR s0), (2, aI v2), (3, aR v3)]) C d_X11_stake_28 (by decide) rfl ?_
  refine z_aload (j := 0) C d_X11_stake_30 rfl ?_
  refine z_ifnonnull (tgt := 37) C d_X11_stake_32 (by decide) hf (fun c32 hf => ?_) (fun c32 hf => ?_)
  · refine z_iload_n (j := 1) C d_X11_stake_37 rfl ?_
    by_cases c38_0 : v2 = 0
    · rw [if_pos c38_0] at hf
      refine z_tin (tgt := 96) C d_X11_stake_38 (by rw [c38_0]; decide) (by rw [c38_0]; decide) (by rw [c38_0]; rfl) (by decide) ?_
      refine z_aload_n (j := 2) C d_X11_stake_96 rfl ?_
      obtain ⟨hg97_0, hf⟩ := gd hf
      refine zg_X7_person C hg97_0 tw_149 d_X11_stake_97 ?_
      exact r_i C hr rfl d_X11_stake_100 hf
    rw [if_neg c38_0] at hf
    have d38_0 := tn (n := 0) c38_0 (by decide)
    by_cases c38_1 : v2 = 1
    · rw [if_pos c38_1] at hf
      refine z_tin (tgt := 101) C d_X11_stake_38 (by rw [c38_1]; decide) (by rw [c38_1]; decide) (by rw [c38_1]; rfl) (by decide) ?_
      refine z_aload_n (j := 2) C d_X11_stake_101 rfl ?_
      obtain ⟨hg102_0, hf⟩ := gd hf
      refine zg_X7_pool C hg102_0 tw_152 d_X11_stake_102 ?_
      exact r_i C hr rfl d_X11_stake_105 hf
    rw [if_neg c38_1] at hf
    have d38_1 := tn (n := 1) c38_1 (by decide)
    by_cases c38_2 : v2 = 2
    · rw [if_pos c38_2] at hf
      refine z_tin (tgt := 106) C d_X11_stake_38 (by rw [c38_2]; decide) (by rw [c38_2]; decide) (by rw [c38_2]; rfl) (by decide) ?_
      refine z_aload_n (j := 2) C d_X11_stake_106 rfl ?_
      obtain ⟨hg107_0, hf⟩ := gd hf
      refine zg_X7_low C hg107_0 tw_155 d_X11_stake_107 ?_
      exact r_i C hr rfl d_X11_stake_110 hf
    rw [if_neg c38_2] at hf
    have d38_2 := tn (n := 2) c38_2 (by decide)
    by_cases c38_3 : v2 = 3
    · rw [if_pos c38_3] at hf
      refine z_tin (tgt := 111) C d_X11_stake_38 (by rw [c38_3]; decide) (by rw [c38_3]; decide) (by rw [c38_3]; rfl) (by decide) ?_
      refine z_aload_n (j := 2) C d_X11_stake_111 rfl ?_
      obtain ⟨hg112_0, hf⟩ := gd hf
      refine zg_X7_high C hg112_0 tw_158 d_X11_stake_112 ?_
      exact r_i C hr rfl d_X11_stake_115 hf
    rw [if_neg c38_3] at hf
    have d38_3 := tn (n := 3) c38_3 (by decide)
    by_cases c38_4 : v2 = 4
    · rw [if_pos c38_4] at hf
      refine z_tin (tgt := 116) C d_X11_stake_38 (by rw [c38_4]; decide) (by rw [c38_4]; decide) (by rw [c38_4]; rfl) (by decide) ?_
      refine z_aload_n (j := 2) C d_X11_stake_116 rfl ?_
      obtain ⟨hg117_0, hf⟩ := gd hf
      refine zg_X7_auto C hg117_0 tw_161 d_X11_stake_117 ?_
      exact r_i C hr rfl d_X11_stake_120 hf
    rw [if_neg c38_4] at hf
    have d38_4 := tn (n := 4) c38_4 (by decide)
    by_cases c38_5 : v2 = 5
    · rw [if_pos c38_5] at hf
      refine z_tin (tgt := 121) C d_X11_stake_38 (by rw [c38_5]; decide) (by rw [c38_5]; decide) (by rw [c38_5]; rfl) (by decide) ?_
      refine z_aload_n (j := 2) C d_X11_stake_121 rfl ?_
      obtain ⟨hg122_0, hf⟩ := gd hf
      refine zg_X7_liquidity C hg122_0 tw_164 d_X11_stake_122 ?_
      exact r_i C hr rfl d_X11_stake_125 hf
    rw [if_neg c38_5] at hf
    have d38_5 := tn (n := 5) c38_5 (by decide)
    by_cases c38_6 : v2 = 6
    · rw [if_pos c38_6] at hf
      refine z_tin (tgt := 126) C d_X11_stake_38 (by rw [c38_6]; decide) (by rw [c38_6]; decide) (by rw [c38_6]; rfl) (by decide) ?_
      refine z_aload_n (j := 2) C d_X11_stake_126 rfl ?_
      refine z_aload (j := 0) C d_X11_stake_127 rfl ?_
      refine z_aload_n (j := 2) C d_X11_stake_129 rfl ?_
      obtain ⟨hg130_0, hf⟩ := gd hf
      refine zg_X7_liquidity C hg130_0 tw_164 d_X11_stake_130 ?_
      refine z_i2l C d_X11_stake_133 ?_
      refine z_iconst (v := 0) C d_X11_stake_134 (by decide) ?_
      refine z_iconst (v := 0) C d_X11_stake_135 (by decide) ?_
      obtain ⟨q136, hF, hf⟩ := bd hf
      refine z_callV1 (rest := []) C [aR s0, aJ (((gI S v3 5) : Int32).toInt64), aI 0, aI 0] hg130_0 (by decide) rfl rfl k_X7_liesIn tw_1040 ⟨by decide, by decide⟩ (Nat.le_of_ble_eq_true rfl) d_X11_stake_136 (c_X7_liesIn C.inj hF) rfl ?_
      refine z_l2i C d_X11_stake_139 ?_
      exact r_i C hr rfl d_X11_stake_140 hf
    rw [if_neg c38_6] at hf
    have d38_6 := tn (n := 6) c38_6 (by decide)
    by_cases c38_7 : v2 = 7
    · rw [if_pos c38_7] at hf
      refine z_tin (tgt := 141) C d_X11_stake_38 (by rw [c38_7]; decide) (by rw [c38_7]; decide) (by rw [c38_7]; rfl) (by decide) ?_
      refine z_aload_n (j := 2) C d_X11_stake_141 rfl ?_
      refine z_aload (j := 0) C d_X11_stake_142 rfl ?_
      refine z_aload_n (j := 2) C d_X11_stake_144 rfl ?_
      obtain ⟨hg145_0, hf⟩ := gd hf
      refine zg_X7_liquidity C hg145_0 tw_164 d_X11_stake_145 ?_
      refine z_i2l C d_X11_stake_148 ?_
      refine z_iconst (v := 1) C d_X11_stake_149 (by decide) ?_
      refine z_iconst (v := 0) C d_X11_stake_150 (by decide) ?_
      obtain ⟨q151, hF, hf⟩ := bd hf
      refine z_callV1 (rest := []) C [aR s0, aJ (((gI S v3 5) : Int32).toInt64), aI 1, aI 0] hg145_0 (by decide) rfl rfl k_X7_liesIn tw_1040 ⟨by decide, by decide⟩ (Nat.le_of_ble_eq_true rfl) d_X11_stake_151 (c_X7_liesIn C.inj hF) rfl ?_
      refine z_l2i C d_X11_stake_154 ?_
      exact r_i C hr rfl d_X11_stake_155 hf
    rw [if_neg c38_7] at hf
    have d38_7 := tn (n := 7) c38_7 (by decide)
    by_cases c38_8 : v2 = 8
    · rw [if_pos c38_8] at hf
      refine z_tin (tgt := 156) C d_X11_stake_38 (by rw [c38_8]; decide) (by rw [c38_8]; decide) (by rw [c38_8]; rfl) (by decide) ?_
      refine z_aload_n (j := 2) C d_X11_stake_156 rfl ?_
      refine z_iconst (v := 0) C d_X11_stake_157 (by decide) ?_
      obtain ⟨hg158_0, hf⟩ := gd hf
      obtain ⟨q158, hF, hf⟩ := bd hf
      refine z_callV1 (rest := []) C [aI 0] hg158_0 (by decide) rfl rfl k_X7_owed tw_1041 ⟨by decide, by decide⟩ (Nat.le_of_ble_eq_true rfl) d_X11_stake_158 (c_X7_owed C.inj hF) rfl ?_
      refine z_l2i C d_X11_stake_161 ?_
      exact r_i C hr rfl d_X11_stake_162 hf
    rw [if_neg c38_8] at hf
    have d38_8 := tn (n := 8) c38_8 (by decide)
    by_cases c38_9 : v2 = 9
    · rw [if_pos c38_9] at hf
      refine z_tin (tgt := 163) C d_X11_stake_38 (by rw [c38_9]; decide) (by rw [c38_9]; decide) (by rw [c38_9]; rfl) (by decide) ?_
      refine z_aload_n (j := 2) C d_X11_stake_163 rfl ?_
      refine z_iconst (v := 1) C d_X11_stake_164 (by decide) ?_
      obtain ⟨hg165_0, hf⟩ := gd hf
      obtain ⟨q165, hF, hf⟩ := bd hf
      refine z_callV1 (rest := []) C [aI 1] hg165_0 (by decide) rfl rfl k_X7_owed tw_1041 ⟨by decide, by decide⟩ (Nat.le_of_ble_eq_true rfl) d_X11_stake_165 (c_X7_owed C.inj hF) rfl ?_
      refine z_l2i C d_X11_stake_168 ?_
      exact r_i C hr rfl d_X11_stake_169 hf
    rw [if_neg c38_9] at hf
    have d38_9 := tn (n := 9) c38_9 (by decide)
    by_cases c38_10 : v2 = 10
    · rw [if_pos c38_10] at hf
      refine z_tin (tgt := 170) C d_X11_stake_38 (by rw [c38_10]; decide) (by rw [c38_10]; decide) (by rw [c38_10]; rfl) (by decide) ?_
      refine z_aload_n (j := 2) C d_X11_stake_170 rfl ?_
      refine z_aload (j := 0) C d_X11_stake_171 rfl ?_
      obtain ⟨hg173_0, hf⟩ := gd hf
      refine zg_X4_zone C hg173_0 tw_102 d_X11_stake_173 ?_
      obtain ⟨hg176_1, hf⟩ := gd hf
      obtain ⟨q176, hF, hf⟩ := bd hf
      refine z_callV1 (rest := []) C [aI (gI S s0 6)] hg176_1 (by decide) rfl rfl k_X7_reaches tw_1042 ⟨by decide, by decide⟩ (Nat.le_of_ble_eq_true rfl) d_X11_stake_176 (c_X7_reaches C.inj hF) rfl ?_
      refine z_if_eq (tgt := 186) C d_X11_stake_179 (by decide) hf (fun c179 hf => ?_) (fun c179 hf => ?_)
      · refine z_iconst (v := 0) C d_X11_stake_186 (by decide) ?_
        exact z_sub [] rfl (t_X11_stake_187 C hr  _ _ hf)
      · refine z_iconst (v := 1) C d_X11_stake_182 (by decide) ?_
        refine z_goto (tgt := 187) C d_X11_stake_183 (by decide) ?_
        exact z_sub [] rfl (t_X11_stake_187 C hr  _ _ hf)
    rw [if_neg c38_10] at hf
    have d38_10 := tn (n := 10) c38_10 (by decide)
    refine z_tout (tgt := 188) C d_X11_stake_38 (by omega) (by decide) ?_
    refine z_iconst (v := (-1)) C d_X11_stake_188 (by decide) ?_
    exact r_i C hr rfl d_X11_stake_189 hf
  · refine z_iconst (v := (-1)) C d_X11_stake_35 (by decide) ?_
    exact r_i C hr rfl d_X11_stake_36 hf
/-- TickPools.stake(II)I -/
def f_X11_stake (p1 : Int32) (p2 : Int32) (S : Mem) : Option (Int32 × Mem) := ((f_X2_stakeAt 78 p1 S).bind fun q5 => (if q5.1 = 0 then (f_X11_stake_28  p2 q5.1 0 q5.2) else (if kd q5.1 = (6, 8) then ((f_X2_poolAt 78 (gI q5.2 q5.1 1) q5.2).bind fun q25 => (f_X11_stake_28  p2 q5.1 q25.1 q25.2)) else none)))
set_option maxRecDepth 20000 in
theorem c_X11_stake {l : Launch} {Γ : GG} (hI : Inj Γ) {p1 : Int32} {p2 : Int32} {S : Mem} {q : Int32 × Mem} (hf : f_X11_stake p1 p2 S = some q) : MM l Γ yX11_stake cX11_stake 5 (some .int) 2 63 [aR 1, aI p1, aI p2] S (some (aI q.1)) q.2 := by
  refine met_of hI "TickPools" rfl (by decide +kernel) (Nat.le_of_ble_eq_true rfl) (fun X hX C hr => ?_)
  unfold f_X11_stake at hf
  show ZZ X Γ 5 _ S 0 [(0, aR 1), (1, aI p1), (2, aI p2)] []
  refine z_aload_n (j := 0) C d_X11_stake_0 rfl ?_
  refine zg_X11_live C rfl tw_461 d_X11_stake_1 ?_
  refine z_iload_n (j := 1) C d_X11_stake_4 rfl ?_
  obtain ⟨q5, hF, hf⟩ := bd hf
  refine z_callV1 (rest := []) C [aI p1] rfl (by decide) rfl rfl k_X2_stakeAt tw_1039 ⟨by decide, by decide⟩ (Nat.le_of_ble_eq_true rfl) d_X11_stake_5 (c_X2_stakeAt C.inj hF) rfl ?_
  refine z_astore_n (lv' := [(3, aR q5.1), (0, aR 1), (1, aI p1), (2, aI p2)]) C d_X11_stake_8 (by decide) rfl ?_
  refine z_aload_n (j := 0) C d_X11_stake_9 rfl ?_
  refine z_ifnonnull (tgt := 17) C d_X11_stake_10 (by decide) hf (fun c10 hf => ?_) (fun c10 hf => ?_)
  · refine z_aload_n (j := 1) C d_X11_stake_17 rfl ?_
    refine zg_X11_live C rfl tw_461 d_X11_stake_18 ?_
    refine z_aload_n (j := 0) C d_X11_stake_21 rfl ?_
    obtain ⟨hg22_0, hf⟩ := gd hf
    refine zg_X7_pool C hg22_0 tw_152 d_X11_stake_22 ?_
    obtain ⟨q25, hF, hf⟩ := bd hf
    refine z_callV1 (rest := []) C [aI (gI q5.2 q5.1 1)] rfl (by decide) rfl rfl k_X2_poolAt tw_1021 ⟨by decide, by decide⟩ (Nat.le_of_ble_eq_true rfl) d_X11_stake_25 (c_X2_poolAt C.inj hF) rfl ?_
    exact z_sub [3, 0] rfl (t_X11_stake_28 C hr  _ _ _ _ hf)
  · refine z_null C d_X11_stake_13 ?_
    refine z_goto (tgt := 28) C d_X11_stake_14 (by decide) ?_
    exact z_sub [3, 0] rfl (t_X11_stake_28 C hr  _ _ _ _ hf)
theorem d_X11_add_0 : decode cX11_add 0 = .ok (.aload_n 0, 1) := by decide +kernel
theorem d_X11_add_1 : decode cX11_add 1 = .ok (.getfield 19, 3) := by decide +kernel
theorem d_X11_add_4 : decode cX11_add 4 = .ok (.iload_n 1, 1) := by decide +kernel
theorem d_X11_add_5 : decode cX11_add 5 = .ok (.iload_n 2, 1) := by decide +kernel
theorem d_X11_add_6 : decode cX11_add 6 = .ok (.iload_n 3, 1) := by decide +kernel
theorem d_X11_add_7 : decode cX11_add 7 = .ok (.iload 4, 2) := by decide +kernel
theorem d_X11_add_9 : decode cX11_add 9 = .ok (.iload 5, 2) := by decide +kernel
theorem d_X11_add_11 : decode cX11_add 11 = .ok (.iload 6, 2) := by decide +kernel
theorem d_X11_add_13 : decode cX11_add 13 = .ok (.invokevirtual 211, 3) := by decide +kernel
theorem d_X11_add_16 : decode cX11_add 16 = .ok (.ireturn, 1) := by decide +kernel
/-- TickPools.add(IIIIII)I -/
def f_X11_add (p1 : Int32) (p2 : Int32) (p3 : Int32) (p4 : Int32) (p5 : Int32) (p6 : Int32) (S : Mem) : Option (Int32 × Mem) := ((f_X2_addStake 78 p1 p2 p3 p4 p5 p6 S).bind fun q13 => (some (q13.1, q13.2)))
set_option maxRecDepth 20000 in
theorem c_X11_add {l : Launch} {Γ : GG} (hI : Inj Γ) {p1 : Int32} {p2 : Int32} {p3 : Int32} {p4 : Int32} {p5 : Int32} {p6 : Int32} {S : Mem} {q : Int32 × Mem} (hf : f_X11_add p1 p2 p3 p4 p5 p6 S = some q) : MM l Γ yX11_add cX11_add 7 (some .int) 3 97 [aR 1, aI p1, aI p2, aI p3, aI p4, aI p5, aI p6] S (some (aI q.1)) q.2 := by
  refine met_of hI "TickPools" rfl (by decide +kernel) (Nat.le_of_ble_eq_true rfl) (fun X hX C hr => ?_)
  unfold f_X11_add at hf
  show ZZ X Γ 7 _ S 0 [(0, aR 1), (1, aI p1), (2, aI p2), (3, aI p3), (4, aI p4), (5, aI p5), (6, aI p6)] []
  refine z_aload_n (j := 0) C d_X11_add_0 rfl ?_
  refine zg_X11_live C rfl tw_461 d_X11_add_1 ?_
  refine z_iload_n (j := 1) C d_X11_add_4 rfl ?_
  refine z_iload_n (j := 2) C d_X11_add_5 rfl ?_
  refine z_iload_n (j := 3) C d_X11_add_6 rfl ?_
  refine z_iload (j := 4) C d_X11_add_7 rfl ?_
  refine z_iload (j := 5) C d_X11_add_9 rfl ?_
  refine z_iload (j := 6) C d_X11_add_11 rfl ?_
  obtain ⟨q13, hF, hf⟩ := bd hf
  refine z_callV1 (rest := []) C [aI p1, aI p2, aI p3, aI p4, aI p5, aI p6] rfl (by decide) rfl rfl k_X2_addStake tw_1047 ⟨by decide, by decide⟩ (Nat.le_of_ble_eq_true rfl) d_X11_add_13 (c_X2_addStake C.inj hF) rfl ?_
  exact r_i C hr rfl d_X11_add_16 hf
theorem d_X11_take_0 : decode cX11_take 0 = .ok (.aload_n 0, 1) := by decide +kernel
theorem d_X11_take_1 : decode cX11_take 1 = .ok (.getfield 19, 3) := by decide +kernel
theorem d_X11_take_4 : decode cX11_take 4 = .ok (.iload_n 1, 1) := by decide +kernel
theorem d_X11_take_5 : decode cX11_take 5 = .ok (.invokevirtual 176, 3) := by decide +kernel
theorem d_X11_take_8 : decode cX11_take 8 = .ok (.astore_n 3, 1) := by decide +kernel
theorem d_X11_take_9 : decode cX11_take 9 = .ok (.aload_n 3, 1) := by decide +kernel
theorem d_X11_take_10 : decode cX11_take 10 = .ok (.ifnull 16, 3) := by decide +kernel
theorem d_X11_take_13 : decode cX11_take 13 = .ok (.iload_n 2, 1) := by decide +kernel
theorem d_X11_take_14 : decode cX11_take 14 = .ok (.iconst 1, 1) := by decide +kernel
theorem d_X11_take_15 : decode cX11_take 15 = .ok (.if_icmp .lt 11, 3) := by decide +kernel
theorem d_X11_take_18 : decode cX11_take 18 = .ok (.iload_n 2, 1) := by decide +kernel
theorem d_X11_take_19 : decode cX11_take 19 = .ok (.aload_n 3, 1) := by decide +kernel
theorem d_X11_take_20 : decode cX11_take 20 = .ok (.getfield 197, 3) := by decide +kernel
theorem d_X11_take_23 : decode cX11_take 23 = .ok (.if_icmp .le 5, 3) := by decide +kernel
theorem d_X11_take_26 : decode cX11_take 26 = .ok (.iconst (-1), 1) := by decide +kernel
theorem d_X11_take_27 : decode cX11_take 27 = .ok (.ireturn, 1) := by decide +kernel
theorem d_X11_take_28 : decode cX11_take 28 = .ok (.aload_n 0, 1) := by decide +kernel
theorem d_X11_take_29 : decode cX11_take 29 = .ok (.getfield 19, 3) := by decide +kernel
theorem d_X11_take_32 : decode cX11_take 32 = .ok (.iload_n 1, 1) := by decide +kernel
theorem d_X11_take_33 : decode cX11_take 33 = .ok (.iload_n 2, 1) := by decide +kernel
theorem d_X11_take_34 : decode cX11_take 34 = .ok (.invokevirtual 215, 3) := by decide +kernel
theorem d_X11_take_37 : decode cX11_take 37 = .ok (.aload_n 0, 1) := by decide +kernel
theorem d_X11_take_38 : decode cX11_take 38 = .ok (.getfield 19, 3) := by decide +kernel
theorem d_X11_take_41 : decode cX11_take 41 = .ok (.getfield 219, 3) := by decide +kernel
theorem d_X11_take_44 : decode cX11_take 44 = .ok (.ireturn, 1) := by decide +kernel
def f_X11_take_26 (S : Mem) : Option (Int32 × Mem) := (some ((-1), S))
set_option maxRecDepth 20000 in
theorem t_X11_take_26 {X : MC} {Γ : GG} (C : CX X Γ cX11_take 4 "TickPools" 3 91) (hr : X.2.2.2.2.2.2.2.2.1.sig.returnType = some .int) {q : Int32 × Mem} (S : Mem) (hf : f_X11_take_26 S = some q) : ZZ X Γ 4 (QQ X Γ (some (aI q.1)) q.2) S 26 [] [] := by
  unfold f_X11_take_26 at hf
  refine z_iconst (v := (-1)) C d_X11_take_26 (by decide) ?_
  exact r_i C hr rfl d_X11_take_27 hf
/-- TickPools.take(II)I -/
def f_X11_take (p1 : Int32) (p2 : Int32) (S : Mem) : Option (Int32 × Mem) := ((f_X2_stakeAt 78 p1 S).bind fun q5 => (if q5.1 = 0 then (f_X11_take_26  q5.2) else (if p2 < 1 then (f_X11_take_26  q5.2) else (if kd q5.1 = (6, 8) then (if p2 ≤ (gI q5.2 q5.1 5) then ((f_X2_withdraw 78 p1 p2 q5.2).bind fun q34 => (some ((gI q34.2 78 3), q34.2))) else (f_X11_take_26  q5.2)) else none))))
set_option maxRecDepth 20000 in
theorem c_X11_take {l : Launch} {Γ : GG} (hI : Inj Γ) {p1 : Int32} {p2 : Int32} {S : Mem} {q : Int32 × Mem} (hf : f_X11_take p1 p2 S = some q) : MM l Γ yX11_take cX11_take 4 (some .int) 3 91 [aR 1, aI p1, aI p2] S (some (aI q.1)) q.2 := by
  refine met_of hI "TickPools" rfl (by decide +kernel) (Nat.le_of_ble_eq_true rfl) (fun X hX C hr => ?_)
  unfold f_X11_take at hf
  show ZZ X Γ 4 _ S 0 [(0, aR 1), (1, aI p1), (2, aI p2)] []
  refine z_aload_n (j := 0) C d_X11_take_0 rfl ?_
  refine zg_X11_live C rfl tw_461 d_X11_take_1 ?_
  refine z_iload_n (j := 1) C d_X11_take_4 rfl ?_
  obtain ⟨q5, hF, hf⟩ := bd hf
  refine z_callV1 (rest := []) C [aI p1] rfl (by decide) rfl rfl k_X2_stakeAt tw_1039 ⟨by decide, by decide⟩ (Nat.le_of_ble_eq_true rfl) d_X11_take_5 (c_X2_stakeAt C.inj hF) rfl ?_
  refine z_astore_n (lv' := [(3, aR q5.1), (0, aR 1), (1, aI p1), (2, aI p2)]) C d_X11_take_8 (by decide) rfl ?_
  refine z_aload_n (j := 0) C d_X11_take_9 rfl ?_
  refine z_ifnull (tgt := 26) C d_X11_take_10 (by decide) hf (fun c10 hf => ?_) (fun c10 hf => ?_)
  · exact z_sub [] rfl (t_X11_take_26 C hr  _ hf)
  · refine z_iload_n (j := 3) C d_X11_take_13 rfl ?_
    refine z_iconst (v := 1) C d_X11_take_14 (by decide) ?_
    refine z_icmp_lt (tgt := 26) C d_X11_take_15 (by decide) hf (fun c15 hf => ?_) (fun c15 hf => ?_)
    · exact z_sub [] rfl (t_X11_take_26 C hr  _ hf)
    · refine z_iload_n (j := 3) C d_X11_take_18 rfl ?_
      refine z_aload_n (j := 0) C d_X11_take_19 rfl ?_
      obtain ⟨hg20_0, hf⟩ := gd hf
      refine zg_X7_liquidity C hg20_0 tw_164 d_X11_take_20 ?_
      refine z_icmp_le (tgt := 28) C d_X11_take_23 (by decide) hf (fun c23 hf => ?_) (fun c23 hf => ?_)
      · refine z_aload_n (j := 1) C d_X11_take_28 rfl ?_
        refine zg_X11_live C rfl tw_461 d_X11_take_29 ?_
        refine z_iload_n (j := 2) C d_X11_take_32 rfl ?_
        refine z_iload_n (j := 3) C d_X11_take_33 rfl ?_
        obtain ⟨q34, hF, hf⟩ := bd hf
        refine z_callV0 (rest := []) C [aI p1, aI p2] rfl (by decide) rfl rfl k_X2_withdraw tw_1052 ⟨by decide, by decide⟩ (Nat.le_of_ble_eq_true rfl) d_X11_take_34 (c_X2_withdraw C.inj hF) rfl ?_
        refine z_aload_n (j := 1) C d_X11_take_37 rfl ?_
        refine zg_X11_live C rfl tw_461 d_X11_take_38 ?_
        refine zg_X2_stakes C rfl tw_201 d_X11_take_41 ?_
        exact r_i C hr rfl d_X11_take_44 hf
      · exact z_sub [] rfl (t_X11_take_26 C hr  _ hf)
theorem d_X11_pay_0 : decode cX11_pay 0 = .ok (.aload_n 0, 1) := by decide +kernel
theorem d_X11_pay_1 : decode cX11_pay 1 = .ok (.getfield 19, 3) := by decide +kernel
theorem d_X11_pay_4 : decode cX11_pay 4 = .ok (.iload_n 1, 1) := by decide +kernel
theorem d_X11_pay_5 : decode cX11_pay 5 = .ok (.invokevirtual 176, 3) := by decide +kernel
theorem d_X11_pay_8 : decode cX11_pay 8 = .ok (.astore_n 2, 1) := by decide +kernel
theorem d_X11_pay_9 : decode cX11_pay 9 = .ok (.aload_n 2, 1) := by decide +kernel
theorem d_X11_pay_10 : decode cX11_pay 10 = .ok (.ifnonnull 7, 3) := by decide +kernel
theorem d_X11_pay_13 : decode cX11_pay 13 = .ok (.aconst_null, 1) := by decide +kernel
theorem d_X11_pay_14 : decode cX11_pay 14 = .ok (.goto 14, 3) := by decide +kernel
theorem d_X11_pay_17 : decode cX11_pay 17 = .ok (.aload_n 0, 1) := by decide +kernel
theorem d_X11_pay_18 : decode cX11_pay 18 = .ok (.getfield 19, 3) := by decide +kernel
theorem d_X11_pay_21 : decode cX11_pay 21 = .ok (.aload_n 2, 1) := by decide +kernel
theorem d_X11_pay_22 : decode cX11_pay 22 = .ok (.getfield 180, 3) := by decide +kernel
theorem d_X11_pay_25 : decode cX11_pay 25 = .ok (.invokevirtual 132, 3) := by decide +kernel
theorem d_X11_pay_28 : decode cX11_pay 28 = .ok (.astore_n 3, 1) := by decide +kernel
theorem d_X11_pay_29 : decode cX11_pay 29 = .ok (.aload_n 3, 1) := by decide +kernel
theorem d_X11_pay_30 : decode cX11_pay 30 = .ok (.ifnonnull 5, 3) := by decide +kernel
theorem d_X11_pay_33 : decode cX11_pay 33 = .ok (.iconst (-1), 1) := by decide +kernel
theorem d_X11_pay_34 : decode cX11_pay 34 = .ok (.ireturn, 1) := by decide +kernel
theorem d_X11_pay_35 : decode cX11_pay 35 = .ok (.aload_n 2, 1) := by decide +kernel
theorem d_X11_pay_36 : decode cX11_pay 36 = .ok (.invokevirtual 222, 3) := by decide +kernel
theorem d_X11_pay_39 : decode cX11_pay 39 = .ok (.aload_n 2, 1) := by decide +kernel
theorem d_X11_pay_40 : decode cX11_pay 40 = .ok (.getfield 225, 3) := by decide +kernel
theorem d_X11_pay_43 : decode cX11_pay 43 = .ok (.iconst 0, 1) := by decide +kernel
theorem d_X11_pay_44 : decode cX11_pay 44 = .ok (.laload, 1) := by decide +kernel
theorem d_X11_pay_45 : decode cX11_pay 45 = .ok (.l2i, 1) := by decide +kernel
theorem d_X11_pay_46 : decode cX11_pay 46 = .ok (.istore 4, 2) := by decide +kernel
theorem d_X11_pay_48 : decode cX11_pay 48 = .ok (.aload_n 2, 1) := by decide +kernel
theorem d_X11_pay_49 : decode cX11_pay 49 = .ok (.getfield 225, 3) := by decide +kernel
theorem d_X11_pay_52 : decode cX11_pay 52 = .ok (.iconst 1, 1) := by decide +kernel
theorem d_X11_pay_53 : decode cX11_pay 53 = .ok (.laload, 1) := by decide +kernel
theorem d_X11_pay_54 : decode cX11_pay 54 = .ok (.l2i, 1) := by decide +kernel
theorem d_X11_pay_55 : decode cX11_pay 55 = .ok (.istore 5, 2) := by decide +kernel
theorem d_X11_pay_57 : decode cX11_pay 57 = .ok (.aload_n 0, 1) := by decide +kernel
theorem d_X11_pay_58 : decode cX11_pay 58 = .ok (.getfield 19, 3) := by decide +kernel
theorem d_X11_pay_61 : decode cX11_pay 61 = .ok (.aload_n 3, 1) := by decide +kernel
theorem d_X11_pay_62 : decode cX11_pay 62 = .ok (.iconst 0, 1) := by decide +kernel
theorem d_X11_pay_63 : decode cX11_pay 63 = .ok (.aload_n 2, 1) := by decide +kernel
theorem d_X11_pay_64 : decode cX11_pay 64 = .ok (.getfield 185, 3) := by decide +kernel
theorem d_X11_pay_67 : decode cX11_pay 67 = .ok (.iload 4, 2) := by decide +kernel
theorem d_X11_pay_69 : decode cX11_pay 69 = .ok (.invokevirtual 229, 3) := by decide +kernel
theorem d_X11_pay_72 : decode cX11_pay 72 = .ok (.aload_n 0, 1) := by decide +kernel
theorem d_X11_pay_73 : decode cX11_pay 73 = .ok (.getfield 19, 3) := by decide +kernel
theorem d_X11_pay_76 : decode cX11_pay 76 = .ok (.aload_n 3, 1) := by decide +kernel
theorem d_X11_pay_77 : decode cX11_pay 77 = .ok (.iconst 1, 1) := by decide +kernel
theorem d_X11_pay_78 : decode cX11_pay 78 = .ok (.aload_n 2, 1) := by decide +kernel
theorem d_X11_pay_79 : decode cX11_pay 79 = .ok (.getfield 185, 3) := by decide +kernel
theorem d_X11_pay_82 : decode cX11_pay 82 = .ok (.iload 5, 2) := by decide +kernel
theorem d_X11_pay_84 : decode cX11_pay 84 = .ok (.invokevirtual 229, 3) := by decide +kernel
theorem d_X11_pay_87 : decode cX11_pay 87 = .ok (.aload_n 2, 1) := by decide +kernel
theorem d_X11_pay_88 : decode cX11_pay 88 = .ok (.getfield 225, 3) := by decide +kernel
theorem d_X11_pay_91 : decode cX11_pay 91 = .ok (.iconst 0, 1) := by decide +kernel
theorem d_X11_pay_92 : decode cX11_pay 92 = .ok (.lconst 0, 1) := by decide +kernel
theorem d_X11_pay_93 : decode cX11_pay 93 = .ok (.lastore, 1) := by decide +kernel
theorem d_X11_pay_94 : decode cX11_pay 94 = .ok (.aload_n 2, 1) := by decide +kernel
theorem d_X11_pay_95 : decode cX11_pay 95 = .ok (.getfield 225, 3) := by decide +kernel
theorem d_X11_pay_98 : decode cX11_pay 98 = .ok (.iconst 1, 1) := by decide +kernel
theorem d_X11_pay_99 : decode cX11_pay 99 = .ok (.lconst 0, 1) := by decide +kernel
theorem d_X11_pay_100 : decode cX11_pay 100 = .ok (.lastore, 1) := by decide +kernel
theorem d_X11_pay_101 : decode cX11_pay 101 = .ok (.iload 4, 2) := by decide +kernel
theorem d_X11_pay_103 : decode cX11_pay 103 = .ok (.iload 5, 2) := by decide +kernel
theorem d_X11_pay_105 : decode cX11_pay 105 = .ok (.iadd, 1) := by decide +kernel
theorem d_X11_pay_106 : decode cX11_pay 106 = .ok (.ireturn, 1) := by decide +kernel
def f_X11_pay_57 (v2 : Nat) (v3 : Nat) (v4 : Int32) (v5 : Int32) (S : Mem) : Option (Int32 × Mem) := (if kd v2 = (6, 8) then ((f_X2_payOut 78 v3 0 (gI S v2 0) v4 S).bind fun q69 => ((f_X2_payOut 78 v3 1 (gI q69.2 v2 0) v5 q69.2).bind fun q84 => (some ((v4 + v5), (sL (sL q84.2 (v2 + 2) ((0 : Int32).toNatClampNeg) 0) (v2 + 2) ((1 : Int32).toNatClampNeg) 0))))) else none)
set_option maxRecDepth 20000 in
theorem t_X11_pay_57 {X : MC} {Γ : GG} (C : CX X Γ cX11_pay 6 "TickPools" 2 48) (hr : X.2.2.2.2.2.2.2.2.1.sig.returnType = some .int) {q : Int32 × Mem} (v2 : Nat) (v3 : Nat) (v4 : Int32) (v5 : Int32) (S : Mem) (hf : f_X11_pay_57 v2 v3 v4 v5 S = some q) : ZZ X Γ 6 (QQ X Γ (some (aI q.1)) q.2) S 57 [(0, aR 1), (2, aR v2), (3, aR v3), (4, aI v4), (5, aI v5)] [] := by
  unfold f_X11_pay_57 at hf
  refine z_aload_n (j := 0) C d_X11_pay_57 rfl ?_
  refine zg_X11_live C rfl tw_461 d_X11_pay_58 ?_
  refine z_aload_n (j := 2) C d_X11_pay_61 rfl ?_
  refine z_iconst (v := 0) C d_X11_pay_62 (by decide) ?_
  refine z_aload_n (j := 1) C d_X11_pay_63 rfl ?_
  obtain ⟨hg64_0, hf⟩ := gd hf
  refine zg_X7_person C hg64_0 tw_149 d_X11_pay_64 ?_
  refine z_iload (j := 3) C d_X11_pay_67 rfl ?_
  obtain ⟨q69, hF, hf⟩ := bd hf
  refine z_callV0 (rest := []) C [aR v3, aI 0, aI (gI S v2 0), aI v4] rfl (by decide) rfl rfl k_X2_payOut tw_1058 ⟨by decide, by decide⟩ (Nat.le_of_ble_eq_true rfl) d_X11_pay_69 (c_X2_payOut C.inj hF) rfl ?_
  refine z_aload_n (j := 0) C d_X11_pay_72 rfl ?_
  refine zg_X11_live C rfl tw_461 d_X11_pay_73 ?_
  refine z_aload_n (j := 2) C d_X11_pay_76 rfl ?_
  refine z_iconst (v := 1) C d_X11_pay_77 (by decide) ?_
  refine z_aload_n (j := 1) C d_X11_pay_78 rfl ?_
  refine zg_X7_person C hg64_0 tw_149 d_X11_pay_79 ?_
  refine z_iload (j := 4) C d_X11_pay_82 rfl ?_
  obtain ⟨q84, hF, hf⟩ := bd hf
  refine z_callV0 (rest := []) C [aR v3, aI 1, aI (gI q69.2 v2 0), aI v5] rfl (by decide) rfl rfl k_X2_payOut tw_1058 ⟨by decide, by decide⟩ (Nat.le_of_ble_eq_true rfl) d_X11_pay_84 (c_X2_payOut C.inj hF) rfl ?_
  refine z_aload_n (j := 1) C d_X11_pay_87 rfl ?_
  refine zg_X7_debt C hg64_0 tw_170 d_X11_pay_88 ?_
  refine z_iconst (v := 0) C d_X11_pay_91 (by decide) ?_
  refine z_lconst (v := 0) C d_X11_pay_92 (by decide) ?_
  refine z_last C (kdS2 hg64_0) (by decide) d_X11_pay_93 ?_
  refine z_aload_n (j := 1) C d_X11_pay_94 rfl ?_
  refine zg_X7_debt C hg64_0 tw_170 d_X11_pay_95 ?_
  refine z_iconst (v := 1) C d_X11_pay_98 (by decide) ?_
  refine z_lconst (v := 0) C d_X11_pay_99 (by decide) ?_
  refine z_last C (kdS2 hg64_0) (by decide) d_X11_pay_100 ?_
  refine z_iload (j := 3) C d_X11_pay_101 rfl ?_
  refine z_iload (j := 4) C d_X11_pay_103 rfl ?_
  refine z_iadd C d_X11_pay_105 ?_
  exact r_i C hr rfl d_X11_pay_106 hf
def f_X11_pay_48 (v2 : Nat) (v3 : Nat) (v4 : Int32) (S : Mem) : Option (Int32 × Mem) := (if kd v2 = (6, 8) then (f_X11_pay_57  v2 v3 v4 (((gL S (v2 + 2) ((1 : Int32).toNatClampNeg)) : Int64).toInt32) S) else none)
set_option maxRecDepth 20000 in
theorem t_X11_pay_48 {X : MC} {Γ : GG} (C : CX X Γ cX11_pay 6 "TickPools" 2 48) (hr : X.2.2.2.2.2.2.2.2.1.sig.returnType = some .int) {q : Int32 × Mem} (v2 : Nat) (v3 : Nat) (v4 : Int32) (S : Mem) (hf : f_X11_pay_48 v2 v3 v4 S = some q) : ZZ X Γ 6 (QQ X Γ (some (aI q.1)) q.2) S 48 [(0, aR 1), (2, aR v2), (3, aR v3), (4, aI v4)] [] := by
  unfold f_X11_pay_48 at hf
  refine z_aload_n (j := 1) C d_X11_pay_48 rfl ?_
  obtain ⟨hg49_0, hf⟩ := gd hf
  refine zg_X7_debt C hg49_0 tw_170 d_X11_pay_49 ?_
  refine z_iconst (v := 1) C d_X11_pay_52 (by decide) ?_
  refine z_lald C (kdS2 hg49_0) (by decide) d_X11_pay_53 ?_
  refine z_l2i C d_X11_pay_54 ?_
  refine z_istore (lv' := [(5, aI (((gL S (v2 + 2) ((1 : Int32).toNatClampNeg)) : Int64).toInt32)), (0, aR 1), (2, aR v2), (3, aR v3), (4, aI v4)]) C d_X11_pay_55 (by decide) rfl ?_
  exact z_sub [1, 2, 3, 4, 0] rfl (t_X11_pay_57 C hr  _ _ _ _ _ hf)
def f_X11_pay_28 (v2 : Nat) (s0 : Nat) (S : Mem) : Option (Int32 × Mem) := (if s0 = 0 then (some ((-1), S)) else (if kd v2 = (6, 8) then ((f_X7_settle v2 S).bind fun q36 => (f_X11_pay_48  v2 s0 (((gL q36.2 (v2 + 2) ((0 : Int32).toNatClampNeg)) : Int64).toInt32) q36.2)) else none))
set_option maxRecDepth 20000 in
theorem t_X11_pay_28 {X : MC} {Γ : GG} (C : CX X Γ cX11_pay 6 "TickPools" 2 48) (hr : X.2.2.2.2.2.2.2.2.1.sig.returnType = some .int) {q : Int32 × Mem} (v2 : Nat) (s0 : Nat) (S : Mem) (hf : f_X11_pay_28 v2 s0 S = some q) : ZZ X Γ 6 (QQ X Γ (some (aI q.1)) q.2) S 28 [(0, aR 1), (2, aR v2)] [aR s0] := by
  unfold f_X11_pay_28 at hf
  refine z_astore_n (lv' := [(3, aR s0), (0, aR 1), (2, aR v2)]) C d_X11_pay_28 (by decide) rfl ?_
  refine z_aload_n (j := 0) C d_X11_pay_29 rfl ?_
  refine z_ifnonnull (tgt := 35) C d_X11_pay_30 (by decide) hf (fun c30 hf => ?_) (fun c30 hf => ?_)
  · refine z_aload_n (j := 2) C d_X11_pay_35 rfl ?_
    obtain ⟨hg36_0, hf⟩ := gd hf
    obtain ⟨q36, hF, hf⟩ := bd hf
    refine z_callV0 (rest := []) C [] hg36_0 (by decide) rfl rfl k_X7_settle tw_1057 ⟨by decide, by decide⟩ (Nat.le_of_ble_eq_true rfl) d_X11_pay_36 (c_X7_settle C.inj hF) rfl ?_
    refine z_aload_n (j := 2) C d_X11_pay_39 rfl ?_
    refine zg_X7_debt C hg36_0 tw_170 d_X11_pay_40 ?_
    refine z_iconst (v := 0) C d_X11_pay_43 (by decide) ?_
    refine z_lald C (kdS2 hg36_0) (by decide) d_X11_pay_44 ?_
    refine z_l2i C d_X11_pay_45 ?_
    refine z_istore (lv' := [(4, aI (((gL q36.2 (v2 + 2) ((0 : Int32).toNatClampNeg)) : Int64).toInt32)), (3, aR s0), (0, aR 1), (2, aR v2)]) C d_X11_pay_46 (by decide) rfl ?_
    exact z_sub [2, 3, 1, 0] rfl (t_X11_pay_48 C hr  _ _ _ _ hf)
  · refine z_iconst (v := (-1)) C d_X11_pay_33 (by decide) ?_
    exact r_i C hr rfl d_X11_pay_34 hf
/-- TickPools.pay(I)I -/
def f_X11_pay (p1 : Int32) (S : Mem) : Option (Int32 × Mem) := ((f_X2_stakeAt 78 p1 S).bind fun q5 => (if q5.1 = 0 then (f_X11_pay_28  q5.1 0 q5.2) else (if kd q5.1 = (6, 8) then ((f_X2_poolAt 78 (gI q5.2 q5.1 1) q5.2).bind fun q25 => (f_X11_pay_28  q5.1 q25.1 q25.2)) else none)))
set_option maxRecDepth 20000 in
theorem c_X11_pay {l : Launch} {Γ : GG} (hI : Inj Γ) {p1 : Int32} {S : Mem} {q : Int32 × Mem} (hf : f_X11_pay p1 S = some q) : MM l Γ yX11_pay cX11_pay 6 (some .int) 2 48 [aR 1, aI p1] S (some (aI q.1)) q.2 := by
  refine met_of hI "TickPools" rfl (by decide +kernel) (Nat.le_of_ble_eq_true rfl) (fun X hX C hr => ?_)
  unfold f_X11_pay at hf
  show ZZ X Γ 6 _ S 0 [(0, aR 1), (1, aI p1)] []
  refine z_aload_n (j := 0) C d_X11_pay_0 rfl ?_
  refine zg_X11_live C rfl tw_461 d_X11_pay_1 ?_
  refine z_iload_n (j := 1) C d_X11_pay_4 rfl ?_
  obtain ⟨q5, hF, hf⟩ := bd hf
  refine z_callV1 (rest := []) C [aI p1] rfl (by decide) rfl rfl k_X2_stakeAt tw_1039 ⟨by decide, by decide⟩ (Nat.le_of_ble_eq_true rfl) d_X11_pay_5 (c_X2_stakeAt C.inj hF) rfl ?_
  refine z_astore_n (lv' := [(2, aR q5.1), (0, aR 1), (1, aI p1)]) C d_X11_pay_8 (by decide) rfl ?_
  refine z_aload_n (j := 0) C d_X11_pay_9 rfl ?_
  refine z_ifnonnull (tgt := 17) C d_X11_pay_10 (by decide) hf (fun c10 hf => ?_) (fun c10 hf => ?_)
  · refine z_aload_n (j := 1) C d_X11_pay_17 rfl ?_
    refine zg_X11_live C rfl tw_461 d_X11_pay_18 ?_
    refine z_aload_n (j := 0) C d_X11_pay_21 rfl ?_
    obtain ⟨hg22_0, hf⟩ := gd hf
    refine zg_X7_pool C hg22_0 tw_152 d_X11_pay_22 ?_
    obtain ⟨q25, hF, hf⟩ := bd hf
    refine z_callV1 (rest := []) C [aI (gI q5.2 q5.1 1)] rfl (by decide) rfl rfl k_X2_poolAt tw_1021 ⟨by decide, by decide⟩ (Nat.le_of_ble_eq_true rfl) d_X11_pay_25 (c_X2_poolAt C.inj hF) rfl ?_
    exact z_sub [1, 0] rfl (t_X11_pay_28 C hr  _ _ _ hf)
  · refine z_null C d_X11_pay_13 ?_
    refine z_goto (tgt := 28) C d_X11_pay_14 (by decide) ?_
    exact z_sub [1, 0] rfl (t_X11_pay_28 C hr  _ _ _ hf)
theorem d_X11_levy_0 : decode cX11_levy 0 = .ok (.aload_n 0, 1) := by decide +kernel
theorem d_X11_levy_1 : decode cX11_levy 1 = .ok (.getfield 19, 3) := by decide +kernel
theorem d_X11_levy_4 : decode cX11_levy 4 = .ok (.iload_n 1, 1) := by decide +kernel
theorem d_X11_levy_5 : decode cX11_levy 5 = .ok (.invokevirtual 132, 3) := by decide +kernel
theorem d_X11_levy_8 : decode cX11_levy 8 = .ok (.astore_n 2, 1) := by decide +kernel
theorem d_X11_levy_9 : decode cX11_levy 9 = .ok (.aload_n 2, 1) := by decide +kernel
theorem d_X11_levy_10 : decode cX11_levy 10 = .ok (.ifnonnull 5, 3) := by decide +kernel
theorem d_X11_levy_13 : decode cX11_levy 13 = .ok (.iconst (-1), 1) := by decide +kernel
theorem d_X11_levy_14 : decode cX11_levy 14 = .ok (.ireturn, 1) := by decide +kernel
theorem d_X11_levy_15 : decode cX11_levy 15 = .ok (.aload_n 2, 1) := by decide +kernel
theorem d_X11_levy_16 : decode cX11_levy 16 = .ok (.getfield 167, 3) := by decide +kernel
theorem d_X11_levy_19 : decode cX11_levy 19 = .ok (.iconst 0, 1) := by decide +kernel
theorem d_X11_levy_20 : decode cX11_levy 20 = .ok (.iaload, 1) := by decide +kernel
theorem d_X11_levy_21 : decode cX11_levy 21 = .ok (.istore_n 3, 1) := by decide +kernel
theorem d_X11_levy_22 : decode cX11_levy 22 = .ok (.aload_n 2, 1) := by decide +kernel
theorem d_X11_levy_23 : decode cX11_levy 23 = .ok (.getfield 167, 3) := by decide +kernel
theorem d_X11_levy_26 : decode cX11_levy 26 = .ok (.iconst 1, 1) := by decide +kernel
theorem d_X11_levy_27 : decode cX11_levy 27 = .ok (.iaload, 1) := by decide +kernel
theorem d_X11_levy_28 : decode cX11_levy 28 = .ok (.istore 4, 2) := by decide +kernel
theorem d_X11_levy_30 : decode cX11_levy 30 = .ok (.aload_n 0, 1) := by decide +kernel
theorem d_X11_levy_31 : decode cX11_levy 31 = .ok (.getfield 19, 3) := by decide +kernel
theorem d_X11_levy_34 : decode cX11_levy 34 = .ok (.aload_n 2, 1) := by decide +kernel
theorem d_X11_levy_35 : decode cX11_levy 35 = .ok (.iconst 0, 1) := by decide +kernel
theorem d_X11_levy_36 : decode cX11_levy 36 = .ok (.iconst 0, 1) := by decide +kernel
theorem d_X11_levy_37 : decode cX11_levy 37 = .ok (.iload_n 3, 1) := by decide +kernel
theorem d_X11_levy_38 : decode cX11_levy 38 = .ok (.invokevirtual 229, 3) := by decide +kernel
theorem d_X11_levy_41 : decode cX11_levy 41 = .ok (.aload_n 0, 1) := by decide +kernel
theorem d_X11_levy_42 : decode cX11_levy 42 = .ok (.getfield 19, 3) := by decide +kernel
theorem d_X11_levy_45 : decode cX11_levy 45 = .ok (.aload_n 2, 1) := by decide +kernel
theorem d_X11_levy_46 : decode cX11_levy 46 = .ok (.iconst 1, 1) := by decide +kernel
theorem d_X11_levy_47 : decode cX11_levy 47 = .ok (.iconst 0, 1) := by decide +kernel
theorem d_X11_levy_48 : decode cX11_levy 48 = .ok (.iload 4, 2) := by decide +kernel
theorem d_X11_levy_50 : decode cX11_levy 50 = .ok (.invokevirtual 229, 3) := by decide +kernel
theorem d_X11_levy_53 : decode cX11_levy 53 = .ok (.aload_n 2, 1) := by decide +kernel
theorem d_X11_levy_54 : decode cX11_levy 54 = .ok (.getfield 167, 3) := by decide +kernel
theorem d_X11_levy_57 : decode cX11_levy 57 = .ok (.iconst 0, 1) := by decide +kernel
theorem d_X11_levy_58 : decode cX11_levy 58 = .ok (.iconst 0, 1) := by decide +kernel
theorem d_X11_levy_59 : decode cX11_levy 59 = .ok (.iastore, 1) := by decide +kernel
theorem d_X11_levy_60 : decode cX11_levy 60 = .ok (.aload_n 2, 1) := by decide +kernel
theorem d_X11_levy_61 : decode cX11_levy 61 = .ok (.getfield 167, 3) := by decide +kernel
theorem d_X11_levy_64 : decode cX11_levy 64 = .ok (.iconst 1, 1) := by decide +kernel
theorem d_X11_levy_65 : decode cX11_levy 65 = .ok (.iconst 0, 1) := by decide +kernel
theorem d_X11_levy_66 : decode cX11_levy 66 = .ok (.iastore, 1) := by decide +kernel
theorem d_X11_levy_67 : decode cX11_levy 67 = .ok (.iload_n 3, 1) := by decide +kernel
theorem d_X11_levy_68 : decode cX11_levy 68 = .ok (.iload 4, 2) := by decide +kernel
theorem d_X11_levy_70 : decode cX11_levy 70 = .ok (.iadd, 1) := by decide +kernel
theorem d_X11_levy_71 : decode cX11_levy 71 = .ok (.ireturn, 1) := by decide +kernel
def f_X11_levy_30 (v2 : Nat) (v3 : Int32) (v4 : Int32) (S : Mem) : Option (Int32 × Mem) := ((f_X2_payOut 78 v2 0 0 v3 S).bind fun q38 => ((f_X2_payOut 78 v2 1 0 v4 q38.2).bind fun q50 => (if kd v2 = (3, 12) then (some ((v3 + v4), (sI (sI q50.2 (v2 + 2) ((0 : Int32).toNatClampNeg) 0) (v2 + 2) ((1 : Int32).toNatClampNeg) 0))) else none)))
set_option maxRecDepth 20000 in
theorem t_X11_levy_30 {X : MC} {Γ : GG} (C : CX X Γ cX11_levy 5 "TickPools" 2 48) (hr : X.2.2.2.2.2.2.2.2.1.sig.returnType = some .int) {q : Int32 × Mem} (v2 : Nat) (v3 : Int32) (v4 : Int32) (S : Mem) (hf : f_X11_levy_30 v2 v3 v4 S = some q) : ZZ X Γ 5 (QQ X Γ (some (aI q.1)) q.2) S 30 [(0, aR 1), (2, aR v2), (3, aI v3), (4, aI v4)] [] := by
  unfold f_X11_levy_30 at hf
  refine z_aload_n (j := 0) C d_X11_levy_30 rfl ?_
  refine zg_X11_live C rfl tw_461 d_X11_levy_31 ?_
  refine z_aload_n (j := 1) C d_X11_levy_34 rfl ?_
  refine z_iconst (v := 0) C d_X11_levy_35 (by decide) ?_
  refine z_iconst (v := 0) C d_X11_levy_36 (by decide) ?_
  refine z_iload_n (j := 2) C d_X11_levy_37 rfl ?_
  obtain ⟨q38, hF, hf⟩ := bd hf
  refine z_callV0 (rest := []) C [aR v2, aI 0, aI 0, aI v3] rfl (by decide) rfl rfl k_X2_payOut tw_1058 ⟨by decide, by decide⟩ (Nat.le_of_ble_eq_true rfl) d_X11_levy_38 (c_X2_payOut C.inj hF) rfl ?_
  refine z_aload_n (j := 0) C d_X11_levy_41 rfl ?_
  refine zg_X11_live C rfl tw_461 d_X11_levy_42 ?_
  refine z_aload_n (j := 1) C d_X11_levy_45 rfl ?_
  refine z_iconst (v := 1) C d_X11_levy_46 (by decide) ?_
  refine z_iconst (v := 0) C d_X11_levy_47 (by decide) ?_
  refine z_iload (j := 3) C d_X11_levy_48 rfl ?_
  obtain ⟨q50, hF, hf⟩ := bd hf
  refine z_callV0 (rest := []) C [aR v2, aI 1, aI 0, aI v4] rfl (by decide) rfl rfl k_X2_payOut tw_1058 ⟨by decide, by decide⟩ (Nat.le_of_ble_eq_true rfl) d_X11_levy_50 (c_X2_payOut C.inj hF) rfl ?_
  refine z_aload_n (j := 1) C d_X11_levy_53 rfl ?_
  obtain ⟨hg54_0, hf⟩ := gd hf
  refine zg_X4_house C hg54_0 tw_111 d_X11_levy_54 ?_
  refine z_iconst (v := 0) C d_X11_levy_57 (by decide) ?_
  refine z_iconst (v := 0) C d_X11_levy_58 (by decide) ?_
  refine z_iast C (kdP2 hg54_0) (by decide) d_X11_levy_59 ?_
  refine z_aload_n (j := 1) C d_X11_levy_60 rfl ?_
  refine zg_X4_house C hg54_0 tw_111 d_X11_levy_61 ?_
  refine z_iconst (v := 1) C d_X11_levy_64 (by decide) ?_
  refine z_iconst (v := 0) C d_X11_levy_65 (by decide) ?_
  refine z_iast C (kdP2 hg54_0) (by decide) d_X11_levy_66 ?_
  refine z_iload_n (j := 2) C d_X11_levy_67 rfl ?_
  refine z_iload (j := 3) C d_X11_levy_68 rfl ?_
  refine z_iadd C d_X11_levy_70 ?_
  exact r_i C hr rfl d_X11_levy_71 hf
def f_X11_levy_22 (v2 : Nat) (v3 : Int32) (S : Mem) : Option (Int32 × Mem) := (if kd v2 = (3, 12) then (f_X11_levy_30  v2 v3 (gI S (v2 + 2) ((1 : Int32).toNatClampNeg)) S) else none)
set_option maxRecDepth 20000 in
theorem t_X11_levy_22 {X : MC} {Γ : GG} (C : CX X Γ cX11_levy 5 "TickPools" 2 48) (hr : X.2.2.2.2.2.2.2.2.1.sig.returnType = some .int) {q : Int32 × Mem} (v2 : Nat) (v3 : Int32) (S : Mem) (hf : f_X11_levy_22 v2 v3 S = some q) : ZZ X Γ 5 (QQ X Γ (some (aI q.1)) q.2) S 22 [(0, aR 1), (2, aR v2), (3, aI v3)] [] := by
  unfold f_X11_levy_22 at hf
  refine z_aload_n (j := 1) C d_X11_levy_22 rfl ?_
  obtain ⟨hg23_0, hf⟩ := gd hf
  refine zg_X4_house C hg23_0 tw_111 d_X11_levy_23 ?_
  refine z_iconst (v := 1) C d_X11_levy_26 (by decide) ?_
  refine z_iald C (kdP2 hg23_0) (by decide) d_X11_levy_27 ?_
  refine z_istore (lv' := [(4, aI (gI S (v2 + 2) ((1 : Int32).toNatClampNeg))), (0, aR 1), (2, aR v2), (3, aI v3)]) C d_X11_levy_28 (by decide) rfl ?_
  exact z_sub [1, 2, 3, 0] rfl (t_X11_levy_30 C hr  _ _ _ _ hf)
/-- TickPools.levy(I)I -/
def f_X11_levy (p1 : Int32) (S : Mem) : Option (Int32 × Mem) := ((f_X2_poolAt 78 p1 S).bind fun q5 => (if q5.1 = 0 then (some ((-1), q5.2)) else (if kd q5.1 = (3, 12) then (f_X11_levy_22  q5.1 (gI q5.2 (q5.1 + 2) ((0 : Int32).toNatClampNeg)) q5.2) else none)))
set_option maxRecDepth 20000 in
theorem c_X11_levy {l : Launch} {Γ : GG} (hI : Inj Γ) {p1 : Int32} {S : Mem} {q : Int32 × Mem} (hf : f_X11_levy p1 S = some q) : MM l Γ yX11_levy cX11_levy 5 (some .int) 2 48 [aR 1, aI p1] S (some (aI q.1)) q.2 := by
  refine met_of hI "TickPools" rfl (by decide +kernel) (Nat.le_of_ble_eq_true rfl) (fun X hX C hr => ?_)
  unfold f_X11_levy at hf
  show ZZ X Γ 5 _ S 0 [(0, aR 1), (1, aI p1)] []
  refine z_aload_n (j := 0) C d_X11_levy_0 rfl ?_
  refine zg_X11_live C rfl tw_461 d_X11_levy_1 ?_
  refine z_iload_n (j := 1) C d_X11_levy_4 rfl ?_
  obtain ⟨q5, hF, hf⟩ := bd hf
  refine z_callV1 (rest := []) C [aI p1] rfl (by decide) rfl rfl k_X2_poolAt tw_1021 ⟨by decide, by decide⟩ (Nat.le_of_ble_eq_true rfl) d_X11_levy_5 (c_X2_poolAt C.inj hF) rfl ?_
  refine z_astore_n (lv' := [(2, aR q5.1), (0, aR 1), (1, aI p1)]) C d_X11_levy_8 (by decide) rfl ?_
  refine z_aload_n (j := 0) C d_X11_levy_9 rfl ?_
  refine z_ifnonnull (tgt := 15) C d_X11_levy_10 (by decide) hf (fun c10 hf => ?_) (fun c10 hf => ?_)
  · refine z_aload_n (j := 0) C d_X11_levy_15 rfl ?_
    obtain ⟨hg16_0, hf⟩ := gd hf
    refine zg_X4_house C hg16_0 tw_111 d_X11_levy_16 ?_
    refine z_iconst (v := 0) C d_X11_levy_19 (by decide) ?_
    refine z_iald C (kdP2 hg16_0) (by decide) d_X11_levy_20 ?_
    refine z_istore_n (lv' := [(3, aI (gI q5.2 (q5.1 + 2) ((0 : Int32).toNatClampNeg))), (2, aR q5.1), (0, aR 1), (1, aI p1)]) C d_X11_levy_21 (by decide) rfl ?_
    exact z_sub [2, 1, 0] rfl (t_X11_levy_22 C hr  _ _ _ hf)
  · refine z_iconst (v := (-1)) C d_X11_levy_13 (by decide) ?_
    exact r_i C hr rfl d_X11_levy_14 hf
theorem d_X11_in_0 : decode cX11_in 0 = .ok (.aload_n 0, 1) := by decide +kernel
theorem d_X11_in_1 : decode cX11_in 1 = .ok (.getfield 19, 3) := by decide +kernel
theorem d_X11_in_4 : decode cX11_in 4 = .ok (.iload_n 2, 1) := by decide +kernel
theorem d_X11_in_5 : decode cX11_in 5 = .ok (.invokevirtual 132, 3) := by decide +kernel
theorem d_X11_in_8 : decode cX11_in 8 = .ok (.astore 6, 2) := by decide +kernel
theorem d_X11_in_10 : decode cX11_in 10 = .ok (.aload 6, 2) := by decide +kernel
theorem d_X11_in_12 : decode cX11_in 12 = .ok (.ifnull 29, 3) := by decide +kernel
theorem d_X11_in_15 : decode cX11_in 15 = .ok (.aload_n 0, 1) := by decide +kernel
theorem d_X11_in_16 : decode cX11_in 16 = .ok (.getfield 19, 3) := by decide +kernel
theorem d_X11_in_19 : decode cX11_in 19 = .ok (.iload_n 1, 1) := by decide +kernel
theorem d_X11_in_20 : decode cX11_in 20 = .ok (.invokevirtual 94, 3) := by decide +kernel
theorem d_X11_in_23 : decode cX11_in 23 = .ok (.ifCond .eq 18, 3) := by decide +kernel
theorem d_X11_in_26 : decode cX11_in 26 = .ok (.iload_n 3, 1) := by decide +kernel
theorem d_X11_in_27 : decode cX11_in 27 = .ok (.invokestatic 233, 3) := by decide +kernel
theorem d_X11_in_30 : decode cX11_in 30 = .ok (.ifCond .eq 11, 3) := by decide +kernel
theorem d_X11_in_33 : decode cX11_in 33 = .ok (.iload 5, 2) := by decide +kernel
theorem d_X11_in_35 : decode cX11_in 35 = .ok (.invokestatic 116, 3) := by decide +kernel
theorem d_X11_in_38 : decode cX11_in 38 = .ok (.ifCond .ne 5, 3) := by decide +kernel
theorem d_X11_in_41 : decode cX11_in 41 = .ok (.iconst (-1), 1) := by decide +kernel
theorem d_X11_in_42 : decode cX11_in 42 = .ok (.ireturn, 1) := by decide +kernel
theorem d_X11_in_43 : decode cX11_in 43 = .ok (.iload 4, 2) := by decide +kernel
theorem d_X11_in_45 : decode cX11_in 45 = .ok (.iconst 1, 1) := by decide +kernel
theorem d_X11_in_46 : decode cX11_in 46 = .ok (.if_icmp .lt 22, 3) := by decide +kernel
theorem d_X11_in_49 : decode cX11_in 49 = .ok (.iload 4, 2) := by decide +kernel
theorem d_X11_in_51 : decode cX11_in 51 = .ok (.aload_n 0, 1) := by decide +kernel
theorem d_X11_in_52 : decode cX11_in 52 = .ok (.getfield 19, 3) := by decide +kernel
theorem d_X11_in_55 : decode cX11_in 55 = .ok (.iload_n 1, 1) := by decide +kernel
theorem d_X11_in_56 : decode cX11_in 56 = .ok (.aload 6, 2) := by decide +kernel
theorem d_X11_in_58 : decode cX11_in 58 = .ok (.iload_n 3, 1) := by decide +kernel
theorem d_X11_in_59 : decode cX11_in 59 = .ok (.invokevirtual 236, 3) := by decide +kernel
theorem d_X11_in_62 : decode cX11_in 62 = .ok (.invokevirtual 128, 3) := by decide +kernel
theorem d_X11_in_65 : decode cX11_in 65 = .ok (.if_icmp .le 5, 3) := by decide +kernel
theorem d_X11_in_68 : decode cX11_in 68 = .ok (.iconst (-1), 1) := by decide +kernel
theorem d_X11_in_69 : decode cX11_in 69 = .ok (.ireturn, 1) := by decide +kernel
theorem d_X11_in_70 : decode cX11_in 70 = .ok (.aload_n 0, 1) := by decide +kernel
theorem d_X11_in_71 : decode cX11_in 71 = .ok (.getfield 29, 3) := by decide +kernel
theorem d_X11_in_74 : decode cX11_in 74 = .ok (.aload_n 0, 1) := by decide +kernel
theorem d_X11_in_75 : decode cX11_in 75 = .ok (.getfield 19, 3) := by decide +kernel
theorem d_X11_in_78 : decode cX11_in 78 = .ok (.iload_n 1, 1) := by decide +kernel
theorem d_X11_in_79 : decode cX11_in 79 = .ok (.iload_n 2, 1) := by decide +kernel
theorem d_X11_in_80 : decode cX11_in 80 = .ok (.iload_n 3, 1) := by decide +kernel
theorem d_X11_in_81 : decode cX11_in 81 = .ok (.iload 4, 2) := by decide +kernel
theorem d_X11_in_83 : decode cX11_in 83 = .ok (.i2l, 1) := by decide +kernel
theorem d_X11_in_84 : decode cX11_in 84 = .ok (.iload 5, 2) := by decide +kernel
theorem d_X11_in_86 : decode cX11_in 86 = .ok (.iconst 1, 1) := by decide +kernel
theorem d_X11_in_87 : decode cX11_in 87 = .ok (.invokevirtual 239, 3) := by decide +kernel
theorem d_X11_in_90 : decode cX11_in 90 = .ok (.aload_n 0, 1) := by decide +kernel
theorem d_X11_in_91 : decode cX11_in 91 = .ok (.getfield 29, 3) := by decide +kernel
theorem d_X11_in_94 : decode cX11_in 94 = .ok (.getfield 243, 3) := by decide +kernel
theorem d_X11_in_97 : decode cX11_in 97 = .ok (.l2i, 1) := by decide +kernel
theorem d_X11_in_98 : decode cX11_in 98 = .ok (.ireturn, 1) := by decide +kernel
def f_X11_in_41 (S : Mem) : Option (Int32 × Mem) := (some ((-1), S))
set_option maxRecDepth 20000 in
theorem t_X11_in_41 {X : MC} {Γ : GG} (C : CX X Γ cX11_in 7 "TickPools" 5 148) (hr : X.2.2.2.2.2.2.2.2.1.sig.returnType = some .int) {q : Int32 × Mem} (S : Mem) (hf : f_X11_in_41 S = some q) : ZZ X Γ 7 (QQ X Γ (some (aI q.1)) q.2) S 41 [] [] := by
  unfold f_X11_in_41 at hf
  refine z_iconst (v := (-1)) C d_X11_in_41 (by decide) ?_
  exact r_i C hr rfl d_X11_in_42 hf
def f_X11_in_68 (S : Mem) : Option (Int32 × Mem) := (some ((-1), S))
set_option maxRecDepth 20000 in
theorem t_X11_in_68 {X : MC} {Γ : GG} (C : CX X Γ cX11_in 7 "TickPools" 5 148) (hr : X.2.2.2.2.2.2.2.2.1.sig.returnType = some .int) {q : Int32 × Mem} (S : Mem) (hf : f_X11_in_68 S = some q) : ZZ X Γ 7 (QQ X Γ (some (aI q.1)) q.2) S 68 [] [] := by
  unfold f_X11_in_68 at hf
  refine z_iconst (v := (-1)) C d_X11_in_68 (by decide) ?_
  exact r_i C hr rfl d_X11_in_69 hf
/-- TickPools.in(IIIII)I -/
def f_X11_in (p1 : Int32) (p2 : Int32) (p3 : Int32) (p4 : Int32) (p5 : Int32) (S : Mem) : Option (Int32 × Mem) := ((f_X2_poolAt 78 p2 S).bind fun q5 => (if q5.1 = 0 then (f_X11_in_41  q5.2) else ((f_X2_hasPerson 78 p1 q5.2).bind fun q20 => (if q20.1 = 0 then (f_X11_in_41  q20.2) else ((f_X11_isSide p3 q20.2).bind fun q27 => (if q27.1 = 0 then (f_X11_in_41  q27.2) else ((f_X11_isTick p5 q27.2).bind fun q35 => (if q35.1 = 0 then (f_X11_in_41  q35.2) else (if p4 < 1 then (f_X11_in_68  q35.2) else (if kd q5.1 = (3, 12) then ((f_X4_thingOn q5.1 p3 q35.2).bind fun q59 => ((f_X2_purseOf 78 p1 q59.1 q59.2).bind fun q62 => (if p4 ≤ q62.1 then ((f_X10_pour 78 p1 p2 p3 (p4.toInt64) p5 1 q62.2).bind fun q87 => (some ((((gL q87.2 4 11) : Int64).toInt32), q87.2))) else (f_X11_in_68  q62.2)))) else none))))))))))
set_option maxRecDepth 20000 in
theorem c_X11_in {l : Launch} {Γ : GG} (hI : Inj Γ) {p1 : Int32} {p2 : Int32} {p3 : Int32} {p4 : Int32} {p5 : Int32} {S : Mem} {q : Int32 × Mem} (hf : f_X11_in p1 p2 p3 p4 p5 S = some q) : MM l Γ yX11_in cX11_in 7 (some .int) 5 148 [aR 1, aI p1, aI p2, aI p3, aI p4, aI p5] S (some (aI q.1)) q.2 := by
  refine met_of hI "TickPools" rfl (by decide +kernel) (Nat.le_of_ble_eq_true rfl) (fun X hX C hr => ?_)
  unfold f_X11_in at hf
  show ZZ X Γ 7 _ S 0 [(0, aR 1), (1, aI p1), (2, aI p2), (3, aI p3), (4, aI p4), (5, aI p5)] []
  refine z_aload_n (j := 0) C d_X11_in_0 rfl ?_
  refine zg_X11_live C rfl tw_461 d_X11_in_1 ?_
  refine z_iload_n (j := 2) C d_X11_in_4 rfl ?_
  obtain ⟨q5, hF, hf⟩ := bd hf
  refine z_callV1 (rest := []) C [aI p2] rfl (by decide) rfl rfl k_X2_poolAt tw_1021 ⟨by decide, by decide⟩ (Nat.le_of_ble_eq_true rfl) d_X11_in_5 (c_X2_poolAt C.inj hF) rfl ?_
  refine z_astore (lv' := [(6, aR q5.1), (0, aR 1), (1, aI p1), (2, aI p2), (3, aI p3), (4, aI p4), (5, aI p5)]) C d_X11_in_8 (by decide) rfl ?_
  refine z_aload (j := 0) C d_X11_in_10 rfl ?_
  refine z_ifnull (tgt := 41) C d_X11_in_12 (by decide) hf (fun c12 hf => ?_) (fun c12 hf => ?_)
  · exact z_sub [] rfl (t_X11_in_41 C hr  _ hf)
  · refine z_aload_n (j := 1) C d_X11_in_15 rfl ?_
    refine zg_X11_live C rfl tw_461 d_X11_in_16 ?_
    refine z_iload_n (j := 2) C d_X11_in_19 rfl ?_
    obtain ⟨q20, hF, hf⟩ := bd hf
    refine z_callV1 (rest := []) C [aI p1] rfl (by decide) rfl rfl k_X2_hasPerson tw_683 ⟨by decide, by decide⟩ (Nat.le_of_ble_eq_true rfl) d_X11_in_20 (c_X2_hasPerson C.inj hF) rfl ?_
    refine z_if_eq (tgt := 41) C d_X11_in_23 (by decide) hf (fun c23 hf => ?_) (fun c23 hf => ?_)
    · exact z_sub [] rfl (t_X11_in_41 C hr  _ hf)
    · refine z_iload_n (j := 4) C d_X11_in_26 rfl ?_
      obtain ⟨q27, hF, hf⟩ := bd hf
      refine z_callS1 (rest := []) C [aI p3] k_X11_isSide tw_1067 ⟨by decide, by decide⟩ (Nat.le_of_ble_eq_true rfl) d_X11_in_27 (c_X11_isSide C.inj hF) rfl ?_
      refine z_if_eq (tgt := 41) C d_X11_in_30 (by decide) hf (fun c30 hf => ?_) (fun c30 hf => ?_)
      · exact z_sub [] rfl (t_X11_in_41 C hr  _ hf)
      · refine z_iload (j := 6) C d_X11_in_33 rfl ?_
        obtain ⟨q35, hF, hf⟩ := bd hf
        refine z_callS1 (rest := []) C [aI p5] k_X11_isTick tw_1009 ⟨by decide, by decide⟩ (Nat.le_of_ble_eq_true rfl) d_X11_in_35 (c_X11_isTick C.inj hF) rfl ?_
        refine z_if_ne (tgt := 43) C d_X11_in_38 (by decide) hf (fun c38 hf => ?_) (fun c38 hf => ?_)
        · refine z_iload (j := 5) C d_X11_in_43 rfl ?_
          refine z_iconst (v := 1) C d_X11_in_45 (by decide) ?_
          refine z_icmp_lt (tgt := 68) C d_X11_in_46 (by decide) hf (fun c46 hf => ?_) (fun c46 hf => ?_)
          · exact z_sub [] rfl (t_X11_in_68 C hr  _ hf)
          · refine z_iload (j := 5) C d_X11_in_49 rfl ?_
            refine z_aload_n (j := 1) C d_X11_in_51 rfl ?_
            refine zg_X11_live C rfl tw_461 d_X11_in_52 ?_
            refine z_iload_n (j := 2) C d_X11_in_55 rfl ?_
            refine z_aload (j := 0) C d_X11_in_56 rfl ?_
            refine z_iload_n (j := 4) C d_X11_in_58 rfl ?_
            obtain ⟨hg59_0, hf⟩ := gd hf
            obtain ⟨q59, hF, hf⟩ := bd hf
            refine z_callV1 (rest := [aI p1, aR 78, aI p4]) C [aI p3] hg59_0 (by decide) rfl rfl k_X4_thingOn tw_1068 ⟨by decide, by decide⟩ (Nat.le_of_ble_eq_true rfl) d_X11_in_59 (c_X4_thingOn C.inj hF) rfl ?_
            obtain ⟨q62, hF, hf⟩ := bd hf
            refine z_callV1 (rest := [aI p4]) C [aI p1, aI q59.1] rfl (by decide) rfl rfl k_X2_purseOf tw_1016 ⟨by decide, by decide⟩ (Nat.le_of_ble_eq_true rfl) d_X11_in_62 (c_X2_purseOf C.inj hF) rfl ?_
            refine z_icmp_le (tgt := 70) C d_X11_in_65 (by decide) hf (fun c65 hf => ?_) (fun c65 hf => ?_)
            · refine z_aload_n (j := 1) C d_X11_in_70 rfl ?_
              refine zg_X11_trade C rfl tw_466 d_X11_in_71 ?_
              refine z_aload_n (j := 1) C d_X11_in_74 rfl ?_
              refine zg_X11_live C rfl tw_461 d_X11_in_75 ?_
              refine z_iload_n (j := 2) C d_X11_in_78 rfl ?_
              refine z_iload_n (j := 3) C d_X11_in_79 rfl ?_
              refine z_iload_n (j := 4) C d_X11_in_80 rfl ?_
              refine z_iload (j := 5) C d_X11_in_81 rfl ?_
              refine z_i2l C d_X11_in_83 ?_
              refine z_iload (j := 6) C d_X11_in_84 rfl ?_
              refine z_iconst (v := 1) C d_X11_in_86 (by decide) ?_
              obtain ⟨q87, hF, hf⟩ := bd hf
              refine z_callV0 (rest := []) C [aR 78, aI p1, aI p2, aI p3, aJ (p4.toInt64), aI p5, aI 1] rfl (by decide) rfl rfl k_X10_pour tw_1069 ⟨by decide, by decide⟩ (Nat.le_of_ble_eq_true rfl) d_X11_in_87 (c_X10_pour C.inj hF) rfl ?_
              refine z_aload_n (j := 1) C d_X11_in_90 rfl ?_
              refine zg_X11_trade C rfl tw_466 d_X11_in_91 ?_
              refine zg_X10_gave C rfl tw_254 d_X11_in_94 ?_
              refine z_l2i C d_X11_in_97 ?_
              exact r_i C hr rfl d_X11_in_98 hf
            · exact z_sub [] rfl (t_X11_in_68 C hr  _ hf)
        · exact z_sub [] rfl (t_X11_in_41 C hr  _ hf)
theorem d_X11_isAmount_0 : decode cX11_isAmount 0 = .ok (.iload_n 0, 1) := by decide +kernel
theorem d_X11_isAmount_1 : decode cX11_isAmount 1 = .ok (.iconst 1, 1) := by decide +kernel
theorem d_X11_isAmount_2 : decode cX11_isAmount 2 = .ok (.if_icmp .lt 14, 3) := by decide +kernel
theorem d_X11_isAmount_5 : decode cX11_isAmount 5 = .ok (.iload_n 0, 1) := by decide +kernel
theorem d_X11_isAmount_6 : decode cX11_isAmount 6 = .ok (.ldc_w 266, 3) := by decide +kernel
theorem d_X11_isAmount_9 : decode cX11_isAmount 9 = .ok (.if_icmp .gt 7, 3) := by decide +kernel
theorem d_X11_isAmount_12 : decode cX11_isAmount 12 = .ok (.iconst 1, 1) := by decide +kernel
theorem d_X11_isAmount_13 : decode cX11_isAmount 13 = .ok (.goto 4, 3) := by decide +kernel
theorem d_X11_isAmount_16 : decode cX11_isAmount 16 = .ok (.iconst 0, 1) := by decide +kernel
theorem d_X11_isAmount_17 : decode cX11_isAmount 17 = .ok (.ireturn, 1) := by decide +kernel
def f_X11_isAmount_17 (s0 : Int32) (S : Mem) : Option (Int32 × Mem) := (if isB s0 = true then (some (s0, S)) else none)
set_option maxRecDepth 20000 in
theorem t_X11_isAmount_17 {X : MC} {Γ : GG} (C : CX X Γ cX11_isAmount 1 "TickPools" 0 0) (hr : X.2.2.2.2.2.2.2.2.1.sig.returnType = some .boolean) {q : Int32 × Mem} (s0 : Int32) (S : Mem) (hf : f_X11_isAmount_17 s0 S = some q) : ZZ X Γ 1 (QQ X Γ (some (aI q.1)) q.2) S 17 [] [aI s0] := by
  unfold f_X11_isAmount_17 at hf
  obtain ⟨hb17_0, hf⟩ := gd hf
  exact r_i C hr (isB_nar hb17_0).1 d_X11_isAmount_17 hf
def f_X11_isAmount_16 (S : Mem) : Option (Int32 × Mem) := (f_X11_isAmount_17  0 S)
set_option maxRecDepth 20000 in
theorem t_X11_isAmount_16 {X : MC} {Γ : GG} (C : CX X Γ cX11_isAmount 1 "TickPools" 0 0) (hr : X.2.2.2.2.2.2.2.2.1.sig.returnType = some .boolean) {q : Int32 × Mem} (S : Mem) (hf : f_X11_isAmount_16 S = some q) : ZZ X Γ 1 (QQ X Γ (some (aI q.1)) q.2) S 16 [] [] := by
  unfold f_X11_isAmount_16 at hf
  refine z_iconst (v := 0) C d_X11_isAmount_16 (by decide) ?_
  exact z_sub [] rfl (t_X11_isAmount_17 C hr  _ _ hf)
/-- TickPools.isAmount(I)Z -/
def f_X11_isAmount (p0 : Int32) (S : Mem) : Option (Int32 × Mem) := (if p0 < 1 then (f_X11_isAmount_16  S) else (if 9999999 < p0 then (f_X11_isAmount_16  S) else (f_X11_isAmount_17  1 S)))
set_option maxRecDepth 20000 in
theorem c_X11_isAmount {l : Launch} {Γ : GG} (hI : Inj Γ) {p0 : Int32} {S : Mem} {q : Int32 × Mem} (hf : f_X11_isAmount p0 S = some q) : MM l Γ yX11_isAmount cX11_isAmount 1 (some .boolean) 0 0 [aI p0] S (some (aI q.1)) q.2 := by
  refine met_of hI "TickPools" rfl (by decide +kernel) (Nat.le_of_ble_eq_true rfl) (fun X hX C hr => ?_)
  unfold f_X11_isAmount at hf
  show ZZ X Γ 1 _ S 0 [(0, aI p0)] []
  refine z_iload_n (j := 0) C d_X11_isAmount_0 rfl ?_
  refine z_iconst (v := 1) C d_X11_isAmount_1 (by decide) ?_
  refine z_icmp_lt (tgt := 16) C d_X11_isAmount_2 (by decide) hf (fun c2 hf => ?_) (fun c2 hf => ?_)
  · exact z_sub [] rfl (t_X11_isAmount_16 C hr  _ hf)
  · refine z_iload_n (j := 0) C d_X11_isAmount_5 rfl ?_
    refine z_ldcw (v := 9999999) C tw_1077 d_X11_isAmount_6 ?_
    refine z_icmp_gt (tgt := 16) C d_X11_isAmount_9 (by decide) hf (fun c9 hf => ?_) (fun c9 hf => ?_)
    · exact z_sub [] rfl (t_X11_isAmount_16 C hr  _ hf)
    · refine z_iconst (v := 1) C d_X11_isAmount_12 (by decide) ?_
      refine z_goto (tgt := 17) C d_X11_isAmount_13 (by decide) ?_
      exact z_sub [] rfl (t_X11_isAmount_17 C hr  _ _ hf)
theorem d_X11_out_0 : decode cX11_out 0 = .ok (.aload_n 0, 1) := by decide +kernel
theorem d_X11_out_1 : decode cX11_out 1 = .ok (.getfield 19, 3) := by decide +kernel
theorem d_X11_out_4 : decode cX11_out 4 = .ok (.iload_n 2, 1) := by decide +kernel
theorem d_X11_out_5 : decode cX11_out 5 = .ok (.invokevirtual 132, 3) := by decide +kernel
theorem d_X11_out_8 : decode cX11_out 8 = .ok (.astore 5, 2) := by decide +kernel
theorem d_X11_out_10 : decode cX11_out 10 = .ok (.aload 5, 2) := by decide +kernel
theorem d_X11_out_12 : decode cX11_out 12 = .ok (.ifnull 29, 3) := by decide +kernel
theorem d_X11_out_15 : decode cX11_out 15 = .ok (.aload_n 0, 1) := by decide +kernel
theorem d_X11_out_16 : decode cX11_out 16 = .ok (.getfield 19, 3) := by decide +kernel
theorem d_X11_out_19 : decode cX11_out 19 = .ok (.iload_n 1, 1) := by decide +kernel
theorem d_X11_out_20 : decode cX11_out 20 = .ok (.invokevirtual 94, 3) := by decide +kernel
theorem d_X11_out_23 : decode cX11_out 23 = .ok (.ifCond .eq 18, 3) := by decide +kernel
theorem d_X11_out_26 : decode cX11_out 26 = .ok (.iload_n 3, 1) := by decide +kernel
theorem d_X11_out_27 : decode cX11_out 27 = .ok (.invokestatic 233, 3) := by decide +kernel
theorem d_X11_out_30 : decode cX11_out 30 = .ok (.ifCond .eq 11, 3) := by decide +kernel
theorem d_X11_out_33 : decode cX11_out 33 = .ok (.iload 4, 2) := by decide +kernel
theorem d_X11_out_35 : decode cX11_out 35 = .ok (.invokestatic 247, 3) := by decide +kernel
theorem d_X11_out_38 : decode cX11_out 38 = .ok (.ifCond .ne 5, 3) := by decide +kernel
theorem d_X11_out_41 : decode cX11_out 41 = .ok (.iconst (-1), 1) := by decide +kernel
theorem d_X11_out_42 : decode cX11_out 42 = .ok (.ireturn, 1) := by decide +kernel
theorem d_X11_out_43 : decode cX11_out 43 = .ok (.aload_n 0, 1) := by decide +kernel
theorem d_X11_out_44 : decode cX11_out 44 = .ok (.getfield 29, 3) := by decide +kernel
theorem d_X11_out_47 : decode cX11_out 47 = .ok (.aload_n 0, 1) := by decide +kernel
theorem d_X11_out_48 : decode cX11_out 48 = .ok (.getfield 19, 3) := by decide +kernel
theorem d_X11_out_51 : decode cX11_out 51 = .ok (.iconst (-1), 1) := by decide +kernel
theorem d_X11_out_52 : decode cX11_out 52 = .ok (.iload_n 2, 1) := by decide +kernel
theorem d_X11_out_53 : decode cX11_out 53 = .ok (.iload_n 3, 1) := by decide +kernel
theorem d_X11_out_54 : decode cX11_out 54 = .ok (.iload 4, 2) := by decide +kernel
theorem d_X11_out_56 : decode cX11_out 56 = .ok (.i2l, 1) := by decide +kernel
theorem d_X11_out_57 : decode cX11_out 57 = .ok (.iconst 0, 1) := by decide +kernel
theorem d_X11_out_58 : decode cX11_out 58 = .ok (.invokevirtual 250, 3) := by decide +kernel
theorem d_X11_out_61 : decode cX11_out 61 = .ok (.aload_n 0, 1) := by decide +kernel
theorem d_X11_out_62 : decode cX11_out 62 = .ok (.getfield 29, 3) := by decide +kernel
theorem d_X11_out_65 : decode cX11_out 65 = .ok (.getfield 254, 3) := by decide +kernel
theorem d_X11_out_68 : decode cX11_out 68 = .ok (.lconst 0, 1) := by decide +kernel
theorem d_X11_out_69 : decode cX11_out 69 = .ok (.lcmp, 1) := by decide +kernel
theorem d_X11_out_70 : decode cX11_out 70 = .ok (.ifCond .le 6, 3) := by decide +kernel
theorem d_X11_out_73 : decode cX11_out 73 = .ok (.bipush (-2), 2) := by decide +kernel
theorem d_X11_out_75 : decode cX11_out 75 = .ok (.ireturn, 1) := by decide +kernel
theorem d_X11_out_76 : decode cX11_out 76 = .ok (.aload_n 0, 1) := by decide +kernel
theorem d_X11_out_77 : decode cX11_out 77 = .ok (.getfield 29, 3) := by decide +kernel
theorem d_X11_out_80 : decode cX11_out 80 = .ok (.getfield 257, 3) := by decide +kernel
theorem d_X11_out_83 : decode cX11_out 83 = .ok (.aload_n 0, 1) := by decide +kernel
theorem d_X11_out_84 : decode cX11_out 84 = .ok (.getfield 19, 3) := by decide +kernel
theorem d_X11_out_87 : decode cX11_out 87 = .ok (.iload_n 1, 1) := by decide +kernel
theorem d_X11_out_88 : decode cX11_out 88 = .ok (.aload 5, 2) := by decide +kernel
theorem d_X11_out_90 : decode cX11_out 90 = .ok (.iload_n 3, 1) := by decide +kernel
theorem d_X11_out_91 : decode cX11_out 91 = .ok (.invokevirtual 236, 3) := by decide +kernel
theorem d_X11_out_94 : decode cX11_out 94 = .ok (.invokevirtual 128, 3) := by decide +kernel
theorem d_X11_out_97 : decode cX11_out 97 = .ok (.i2l, 1) := by decide +kernel
theorem d_X11_out_98 : decode cX11_out 98 = .ok (.lcmp, 1) := by decide +kernel
theorem d_X11_out_99 : decode cX11_out 99 = .ok (.ifCond .le 6, 3) := by decide +kernel
theorem d_X11_out_102 : decode cX11_out 102 = .ok (.bipush (-3), 2) := by decide +kernel
theorem d_X11_out_104 : decode cX11_out 104 = .ok (.ireturn, 1) := by decide +kernel
theorem d_X11_out_105 : decode cX11_out 105 = .ok (.aload_n 0, 1) := by decide +kernel
theorem d_X11_out_106 : decode cX11_out 106 = .ok (.getfield 29, 3) := by decide +kernel
theorem d_X11_out_109 : decode cX11_out 109 = .ok (.aload_n 0, 1) := by decide +kernel
theorem d_X11_out_110 : decode cX11_out 110 = .ok (.getfield 19, 3) := by decide +kernel
theorem d_X11_out_113 : decode cX11_out 113 = .ok (.iload_n 1, 1) := by decide +kernel
theorem d_X11_out_114 : decode cX11_out 114 = .ok (.iload_n 2, 1) := by decide +kernel
theorem d_X11_out_115 : decode cX11_out 115 = .ok (.iload_n 3, 1) := by decide +kernel
theorem d_X11_out_116 : decode cX11_out 116 = .ok (.iload 4, 2) := by decide +kernel
theorem d_X11_out_118 : decode cX11_out 118 = .ok (.i2l, 1) := by decide +kernel
theorem d_X11_out_119 : decode cX11_out 119 = .ok (.iconst 1, 1) := by decide +kernel
theorem d_X11_out_120 : decode cX11_out 120 = .ok (.invokevirtual 250, 3) := by decide +kernel
theorem d_X11_out_123 : decode cX11_out 123 = .ok (.aload_n 0, 1) := by decide +kernel
theorem d_X11_out_124 : decode cX11_out 124 = .ok (.getfield 29, 3) := by decide +kernel
theorem d_X11_out_127 : decode cX11_out 127 = .ok (.getfield 257, 3) := by decide +kernel
theorem d_X11_out_130 : decode cX11_out 130 = .ok (.l2i, 1) := by decide +kernel
theorem d_X11_out_131 : decode cX11_out 131 = .ok (.ireturn, 1) := by decide +kernel
def f_X11_out_41 (S : Mem) : Option (Int32 × Mem) := (some ((-1), S))
set_option maxRecDepth 20000 in
theorem t_X11_out_41 {X : MC} {Γ : GG} (C : CX X Γ cX11_out 6 "TickPools" 5 146) (hr : X.2.2.2.2.2.2.2.2.1.sig.returnType = some .int) {q : Int32 × Mem} (S : Mem) (hf : f_X11_out_41 S = some q) : ZZ X Γ 6 (QQ X Γ (some (aI q.1)) q.2) S 41 [] [] := by
  unfold f_X11_out_41 at hf
  refine z_iconst (v := (-1)) C d_X11_out_41 (by decide) ?_
  exact r_i C hr rfl d_X11_out_42 hf
/-- TickPools.out(IIII)I -/
def f_X11_out (p1 : Int32) (p2 : Int32) (p3 : Int32) (p4 : Int32) (S : Mem) : Option (Int32 × Mem) := ((f_X2_poolAt 78 p2 S).bind fun q5 => (if q5.1 = 0 then (f_X11_out_41  q5.2) else ((f_X2_hasPerson 78 p1 q5.2).bind fun q20 => (if q20.1 = 0 then (f_X11_out_41  q20.2) else ((f_X11_isSide p3 q20.2).bind fun q27 => (if q27.1 = 0 then (f_X11_out_41  q27.2) else ((f_X11_isAmount p4 q27.2).bind fun q35 => (if q35.1 = 0 then (f_X11_out_41  q35.2) else ((f_X10_drain 78 (-1) p2 p3 (p4.toInt64) 0 q35.2).bind fun q58 => (if (gL q58.2 4 10) ≤ 0 then (if kd q5.1 = (3, 12) then ((f_X4_thingOn q5.1 p3 q58.2).bind fun q91 => ((f_X2_purseOf 78 p1 q91.1 q91.2).bind fun q94 => (if (gL q58.2 4 12) ≤ (q94.1.toInt64) then ((f_X10_drain 78 p1 p2 p3 (p4.toInt64) 1 q94.2).bind fun q120 => (some ((((gL q120.2 4 12) : Int64).toInt32), q120.2))) else (some ((-3), q94.2))))) else none) else (some ((-2), q58.2))))))))))))
set_option maxRecDepth 20000 in
theorem c_X11_out {l : Launch} {Γ : GG} (hI : Inj Γ) {p1 : Int32} {p2 : Int32} {p3 : Int32} {p4 : Int32} {S : Mem} {q : Int32 × Mem} (hf : f_X11_out p1 p2 p3 p4 S = some q) : MM l Γ yX11_out cX11_out 6 (some .int) 5 146 [aR 1, aI p1, aI p2, aI p3, aI p4] S (some (aI q.1)) q.2 := by
  refine met_of hI "TickPools" rfl (by decide +kernel) (Nat.le_of_ble_eq_true rfl) (fun X hX C hr => ?_)
  unfold f_X11_out at hf
  show ZZ X Γ 6 _ S 0 [(0, aR 1), (1, aI p1), (2, aI p2), (3, aI p3), (4, aI p4)] []
  refine z_aload_n (j := 0) C d_X11_out_0 rfl ?_
  refine zg_X11_live C rfl tw_461 d_X11_out_1 ?_
  refine z_iload_n (j := 2) C d_X11_out_4 rfl ?_
  obtain ⟨q5, hF, hf⟩ := bd hf
  refine z_callV1 (rest := []) C [aI p2] rfl (by decide) rfl rfl k_X2_poolAt tw_1021 ⟨by decide, by decide⟩ (Nat.le_of_ble_eq_true rfl) d_X11_out_5 (c_X2_poolAt C.inj hF) rfl ?_
  refine z_astore (lv' := [(5, aR q5.1), (0, aR 1), (1, aI p1), (2, aI p2), (3, aI p3), (4, aI p4)]) C d_X11_out_8 (by decide) rfl ?_
  refine z_aload (j := 0) C d_X11_out_10 rfl ?_
  refine z_ifnull (tgt := 41) C d_X11_out_12 (by decide) hf (fun c12 hf => ?_) (fun c12 hf => ?_)
  · exact z_sub [] rfl (t_X11_out_41 C hr  _ hf)
  · refine z_aload_n (j := 1) C d_X11_out_15 rfl ?_
    refine zg_X11_live C rfl tw_461 d_X11_out_16 ?_
    refine z_iload_n (j := 2) C d_X11_out_19 rfl ?_
    obtain ⟨q20, hF, hf⟩ := bd hf
    refine z_callV1 (rest := []) C [aI p1] rfl (by decide) rfl rfl k_X2_hasPerson tw_683 ⟨by decide, by decide⟩ (Nat.le_of_ble_eq_true rfl) d_X11_out_20 (c_X2_hasPerson C.inj hF) rfl ?_
    refine z_if_eq (tgt := 41) C d_X11_out_23 (by decide) hf (fun c23 hf => ?_) (fun c23 hf => ?_)
    · exact z_sub [] rfl (t_X11_out_41 C hr  _ hf)
    · refine z_iload_n (j := 4) C d_X11_out_26 rfl ?_
      obtain ⟨q27, hF, hf⟩ := bd hf
      refine z_callS1 (rest := []) C [aI p3] k_X11_isSide tw_1067 ⟨by decide, by decide⟩ (Nat.le_of_ble_eq_true rfl) d_X11_out_27 (c_X11_isSide C.inj hF) rfl ?_
      refine z_if_eq (tgt := 41) C d_X11_out_30 (by decide) hf (fun c30 hf => ?_) (fun c30 hf => ?_)
      · exact z_sub [] rfl (t_X11_out_41 C hr  _ hf)
      · refine z_iload (j := 5) C d_X11_out_33 rfl ?_
        obtain ⟨q35, hF, hf⟩ := bd hf
        refine z_callS1 (rest := []) C [aI p4] k_X11_isAmount tw_1074 ⟨by decide, by decide⟩ (Nat.le_of_ble_eq_true rfl) d_X11_out_35 (c_X11_isAmount C.inj hF) rfl ?_
        refine z_if_ne (tgt := 43) C d_X11_out_38 (by decide) hf (fun c38 hf => ?_) (fun c38 hf => ?_)
        · refine z_aload_n (j := 1) C d_X11_out_43 rfl ?_
          refine zg_X11_trade C rfl tw_466 d_X11_out_44 ?_
          refine z_aload_n (j := 1) C d_X11_out_47 rfl ?_
          refine zg_X11_live C rfl tw_461 d_X11_out_48 ?_
          refine z_iconst (v := (-1)) C d_X11_out_51 (by decide) ?_
          refine z_iload_n (j := 3) C d_X11_out_52 rfl ?_
          refine z_iload_n (j := 4) C d_X11_out_53 rfl ?_
          refine z_iload (j := 5) C d_X11_out_54 rfl ?_
          refine z_i2l C d_X11_out_56 ?_
          refine z_iconst (v := 0) C d_X11_out_57 (by decide) ?_
          obtain ⟨q58, hF, hf⟩ := bd hf
          refine z_callV0 (rest := []) C [aR 78, aI (-1), aI p2, aI p3, aJ (p4.toInt64), aI 0] rfl (by decide) rfl rfl k_X10_drain tw_1078 ⟨by decide, by decide⟩ (Nat.le_of_ble_eq_true rfl) d_X11_out_58 (c_X10_drain C.inj hF) rfl ?_
          refine z_aload_n (j := 1) C d_X11_out_61 rfl ?_
          refine zg_X11_trade C rfl tw_466 d_X11_out_62 ?_
          refine zg_X10_left C rfl tw_250 d_X11_out_65 ?_
          refine z_lconst (v := 0) C d_X11_out_68 (by decide) ?_
          refine z_lle (tgt := 76) C d_X11_out_69 d_X11_out_70 (by decide) hf (fun c69 hf => ?_) (fun c69 hf => ?_)
          · refine z_aload_n (j := 1) C d_X11_out_76 rfl ?_
            refine zg_X11_trade C rfl tw_466 d_X11_out_77 ?_
            refine zg_X10_paid C rfl tw_257 d_X11_out_80 ?_
            refine z_aload_n (j := 1) C d_X11_out_83 rfl ?_
            refine zg_X11_live C rfl tw_461 d_X11_out_84 ?_
            refine z_iload_n (j := 2) C d_X11_out_87 rfl ?_
            refine z_aload (j := 0) C d_X11_out_88 rfl ?_
            refine z_iload_n (j := 4) C d_X11_out_90 rfl ?_
            obtain ⟨hg91_0, hf⟩ := gd hf
            obtain ⟨q91, hF, hf⟩ := bd hf
            refine z_callV1 (rest := [aI p1, aR 78, aJ (gL q58.2 4 12)]) C [aI p3] hg91_0 (by decide) rfl rfl k_X4_thingOn tw_1068 ⟨by decide, by decide⟩ (Nat.le_of_ble_eq_true rfl) d_X11_out_91 (c_X4_thingOn C.inj hF) rfl ?_
            obtain ⟨q94, hF, hf⟩ := bd hf
            refine z_callV1 (rest := [aJ (gL q58.2 4 12)]) C [aI p1, aI q91.1] rfl (by decide) rfl rfl k_X2_purseOf tw_1016 ⟨by decide, by decide⟩ (Nat.le_of_ble_eq_true rfl) d_X11_out_94 (c_X2_purseOf C.inj hF) rfl ?_
            refine z_i2l C d_X11_out_97 ?_
            refine z_lle (tgt := 105) C d_X11_out_98 d_X11_out_99 (by decide) hf (fun c98 hf => ?_) (fun c98 hf => ?_)
            · refine z_aload_n (j := 1) C d_X11_out_105 rfl ?_
              refine zg_X11_trade C rfl tw_466 d_X11_out_106 ?_
              refine z_aload_n (j := 1) C d_X11_out_109 rfl ?_
              refine zg_X11_live C rfl tw_461 d_X11_out_110 ?_
              refine z_iload_n (j := 2) C d_X11_out_113 rfl ?_
              refine z_iload_n (j := 3) C d_X11_out_114 rfl ?_
              refine z_iload_n (j := 4) C d_X11_out_115 rfl ?_
              refine z_iload (j := 5) C d_X11_out_116 rfl ?_
              refine z_i2l C d_X11_out_118 ?_
              refine z_iconst (v := 1) C d_X11_out_119 (by decide) ?_
              obtain ⟨q120, hF, hf⟩ := bd hf
              refine z_callV0 (rest := []) C [aR 78, aI p1, aI p2, aI p3, aJ (p4.toInt64), aI 1] rfl (by decide) rfl rfl k_X10_drain tw_1078 ⟨by decide, by decide⟩ (Nat.le_of_ble_eq_true rfl) d_X11_out_120 (c_X10_drain C.inj hF) rfl ?_
              refine z_aload_n (j := 1) C d_X11_out_123 rfl ?_
              refine zg_X11_trade C rfl tw_466 d_X11_out_124 ?_
              refine zg_X10_paid C rfl tw_257 d_X11_out_127 ?_
              refine z_l2i C d_X11_out_130 ?_
              exact r_i C hr rfl d_X11_out_131 hf
            · refine z_bipush (v := (-3)) C d_X11_out_102 (by decide) ?_
              exact r_i C hr rfl d_X11_out_104 hf
          · refine z_bipush (v := (-2)) C d_X11_out_73 (by decide) ?_
            exact r_i C hr rfl d_X11_out_75 hf
        · exact z_sub [] rfl (t_X11_out_41 C hr  _ hf)
theorem d_X11_passes_0 : decode cX11_passes 0 = .ok (.aload_n 0, 1) := by decide +kernel
theorem d_X11_passes_1 : decode cX11_passes 1 = .ok (.getfield 19, 3) := by decide +kernel
theorem d_X11_passes_4 : decode cX11_passes 4 = .ok (.getfield 260, 3) := by decide +kernel
theorem d_X11_passes_7 : decode cX11_passes 7 = .ok (.ifCond .eq 30, 3) := by decide +kernel
theorem d_X11_passes_10 : decode cX11_passes 10 = .ok (.iload_n 1, 1) := by decide +kernel
theorem d_X11_passes_11 : decode cX11_passes 11 = .ok (.iconst 1, 1) := by decide +kernel
theorem d_X11_passes_12 : decode cX11_passes 12 = .ok (.if_icmp .lt 25, 3) := by decide +kernel
theorem d_X11_passes_15 : decode cX11_passes 15 = .ok (.iload_n 1, 1) := by decide +kernel
theorem d_X11_passes_16 : decode cX11_passes 16 = .ok (.sipush 9999, 3) := by decide +kernel
theorem d_X11_passes_19 : decode cX11_passes 19 = .ok (.if_icmp .gt 18, 3) := by decide +kernel
theorem d_X11_passes_22 : decode cX11_passes 22 = .ok (.aload_n 0, 1) := by decide +kernel
theorem d_X11_passes_23 : decode cX11_passes 23 = .ok (.getfield 19, 3) := by decide +kernel
theorem d_X11_passes_26 : decode cX11_passes 26 = .ok (.getfield 263, 3) := by decide +kernel
theorem d_X11_passes_29 : decode cX11_passes 29 = .ok (.iload_n 1, 1) := by decide +kernel
theorem d_X11_passes_30 : decode cX11_passes 30 = .ok (.iadd, 1) := by decide +kernel
theorem d_X11_passes_31 : decode cX11_passes 31 = .ok (.ldc_w 266, 3) := by decide +kernel
theorem d_X11_passes_34 : decode cX11_passes 34 = .ok (.if_icmp .le 5, 3) := by decide +kernel
theorem d_X11_passes_37 : decode cX11_passes 37 = .ok (.iconst (-1), 1) := by decide +kernel
theorem d_X11_passes_38 : decode cX11_passes 38 = .ok (.ireturn, 1) := by decide +kernel
theorem d_X11_passes_39 : decode cX11_passes 39 = .ok (.aload_n 0, 1) := by decide +kernel
theorem d_X11_passes_40 : decode cX11_passes 40 = .ok (.getfield 19, 3) := by decide +kernel
theorem d_X11_passes_43 : decode cX11_passes 43 = .ok (.dup, 1) := by decide +kernel
theorem d_X11_passes_44 : decode cX11_passes 44 = .ok (.getfield 263, 3) := by decide +kernel
theorem d_X11_passes_47 : decode cX11_passes 47 = .ok (.iload_n 1, 1) := by decide +kernel
theorem d_X11_passes_48 : decode cX11_passes 48 = .ok (.iadd, 1) := by decide +kernel
theorem d_X11_passes_49 : decode cX11_passes 49 = .ok (.putfield 263, 3) := by decide +kernel
theorem d_X11_passes_52 : decode cX11_passes 52 = .ok (.aload_n 0, 1) := by decide +kernel
theorem d_X11_passes_53 : decode cX11_passes 53 = .ok (.getfield 19, 3) := by decide +kernel
theorem d_X11_passes_56 : decode cX11_passes 56 = .ok (.getfield 263, 3) := by decide +kernel
theorem d_X11_passes_59 : decode cX11_passes 59 = .ok (.ireturn, 1) := by decide +kernel
def f_X11_passes_37 (S : Mem) : Option (Int32 × Mem) := (some ((-1), S))
set_option maxRecDepth 20000 in
theorem t_X11_passes_37 {X : MC} {Γ : GG} (C : CX X Γ cX11_passes 2 "TickPools" 0 0) (hr : X.2.2.2.2.2.2.2.2.1.sig.returnType = some .int) {q : Int32 × Mem} (S : Mem) (hf : f_X11_passes_37 S = some q) : ZZ X Γ 2 (QQ X Γ (some (aI q.1)) q.2) S 37 [] [] := by
  unfold f_X11_passes_37 at hf
  refine z_iconst (v := (-1)) C d_X11_passes_37 (by decide) ?_
  exact r_i C hr rfl d_X11_passes_38 hf
/-- TickPools.passes(I)I -/
def f_X11_passes (p1 : Int32) (S : Mem) : Option (Int32 × Mem) := (if (gI S 78 0) = 0 then (f_X11_passes_37  S) else (if p1 < 1 then (f_X11_passes_37  S) else (if 9999 < p1 then (f_X11_passes_37  S) else (if ((gI S 78 4) + p1) ≤ 9999999 then (some ((gI (sI S 78 4 ((gI S 78 4) + p1)) 78 4), (sI S 78 4 ((gI S 78 4) + p1)))) else (f_X11_passes_37  S)))))
set_option maxRecDepth 20000 in
theorem c_X11_passes {l : Launch} {Γ : GG} (hI : Inj Γ) {p1 : Int32} {S : Mem} {q : Int32 × Mem} (hf : f_X11_passes p1 S = some q) : MM l Γ yX11_passes cX11_passes 2 (some .int) 0 0 [aR 1, aI p1] S (some (aI q.1)) q.2 := by
  refine met_of hI "TickPools" rfl (by decide +kernel) (Nat.le_of_ble_eq_true rfl) (fun X hX C hr => ?_)
  unfold f_X11_passes at hf
  show ZZ X Γ 2 _ S 0 [(0, aR 1), (1, aI p1)] []
  refine z_aload_n (j := 0) C d_X11_passes_0 rfl ?_
  refine zg_X11_live C rfl tw_461 d_X11_passes_1 ?_
  refine zg_X2_things C rfl tw_192 d_X11_passes_4 ?_
  refine z_if_eq (tgt := 37) C d_X11_passes_7 (by decide) hf (fun c7 hf => ?_) (fun c7 hf => ?_)
  · exact z_sub [] rfl (t_X11_passes_37 C hr  _ hf)
  · refine z_iload_n (j := 1) C d_X11_passes_10 rfl ?_
    refine z_iconst (v := 1) C d_X11_passes_11 (by decide) ?_
    refine z_icmp_lt (tgt := 37) C d_X11_passes_12 (by decide) hf (fun c12 hf => ?_) (fun c12 hf => ?_)
    · exact z_sub [] rfl (t_X11_passes_37 C hr  _ hf)
    · refine z_iload_n (j := 1) C d_X11_passes_15 rfl ?_
      refine z_sipush (v := 9999) C d_X11_passes_16 (by decide) ?_
      refine z_icmp_gt (tgt := 37) C d_X11_passes_19 (by decide) hf (fun c19 hf => ?_) (fun c19 hf => ?_)
      · exact z_sub [] rfl (t_X11_passes_37 C hr  _ hf)
      · refine z_aload_n (j := 0) C d_X11_passes_22 rfl ?_
        refine zg_X11_live C rfl tw_461 d_X11_passes_23 ?_
        refine zg_X2_time C rfl tw_204 d_X11_passes_26 ?_
        refine z_iload_n (j := 1) C d_X11_passes_29 rfl ?_
        refine z_iadd C d_X11_passes_30 ?_
        refine z_ldcw (v := 9999999) C tw_1077 d_X11_passes_31 ?_
        refine z_icmp_le (tgt := 39) C d_X11_passes_34 (by decide) hf (fun c34 hf => ?_) (fun c34 hf => ?_)
        · refine z_aload_n (j := 0) C d_X11_passes_39 rfl ?_
          refine zg_X11_live C rfl tw_461 d_X11_passes_40 ?_
          refine z_dup C d_X11_passes_43 rfl ?_
          refine zg_X2_time C rfl tw_204 d_X11_passes_44 ?_
          refine z_iload_n (j := 1) C d_X11_passes_47 rfl ?_
          refine z_iadd C d_X11_passes_48 ?_
          refine zp_X2_time C rfl tw_204 d_X11_passes_49 ?_
          refine z_aload_n (j := 0) C d_X11_passes_52 rfl ?_
          refine zg_X11_live C rfl tw_461 d_X11_passes_53 ?_
          refine zg_X2_time C rfl tw_204 d_X11_passes_56 ?_
          exact r_i C hr rfl d_X11_passes_59 hf
        · exact z_sub [] rfl (t_X11_passes_37 C hr  _ hf)
theorem d_X11_mean_0 : decode cX11_mean 0 = .ok (.aload_n 0, 1) := by decide +kernel
theorem d_X11_mean_1 : decode cX11_mean 1 = .ok (.getfield 19, 3) := by decide +kernel
theorem d_X11_mean_4 : decode cX11_mean 4 = .ok (.iload_n 1, 1) := by decide +kernel
theorem d_X11_mean_5 : decode cX11_mean 5 = .ok (.invokevirtual 132, 3) := by decide +kernel
theorem d_X11_mean_8 : decode cX11_mean 8 = .ok (.astore_n 3, 1) := by decide +kernel
theorem d_X11_mean_9 : decode cX11_mean 9 = .ok (.aload_n 3, 1) := by decide +kernel
theorem d_X11_mean_10 : decode cX11_mean 10 = .ok (.ifnull 8, 3) := by decide +kernel
theorem d_X11_mean_13 : decode cX11_mean 13 = .ok (.iload_n 2, 1) := by decide +kernel
theorem d_X11_mean_14 : decode cX11_mean 14 = .ok (.iconst 1, 1) := by decide +kernel
theorem d_X11_mean_15 : decode cX11_mean 15 = .ok (.if_icmp .ge 5, 3) := by decide +kernel
theorem d_X11_mean_18 : decode cX11_mean 18 = .ok (.iconst (-1), 1) := by decide +kernel
theorem d_X11_mean_19 : decode cX11_mean 19 = .ok (.ireturn, 1) := by decide +kernel
theorem d_X11_mean_20 : decode cX11_mean 20 = .ok (.aload_n 0, 1) := by decide +kernel
theorem d_X11_mean_21 : decode cX11_mean 21 = .ok (.getfield 19, 3) := by decide +kernel
theorem d_X11_mean_24 : decode cX11_mean 24 = .ok (.getfield 263, 3) := by decide +kernel
theorem d_X11_mean_27 : decode cX11_mean 27 = .ok (.iload_n 2, 1) := by decide +kernel
theorem d_X11_mean_28 : decode cX11_mean 28 = .ok (.isub, 1) := by decide +kernel
theorem d_X11_mean_29 : decode cX11_mean 29 = .ok (.istore 4, 2) := by decide +kernel
theorem d_X11_mean_31 : decode cX11_mean 31 = .ok (.iload 4, 2) := by decide +kernel
theorem d_X11_mean_33 : decode cX11_mean 33 = .ok (.aload_n 3, 1) := by decide +kernel
theorem d_X11_mean_34 : decode cX11_mean 34 = .ok (.invokevirtual 267, 3) := by decide +kernel
theorem d_X11_mean_37 : decode cX11_mean 37 = .ok (.if_icmp .ge 6, 3) := by decide +kernel
theorem d_X11_mean_40 : decode cX11_mean 40 = .ok (.bipush (-2), 2) := by decide +kernel
theorem d_X11_mean_42 : decode cX11_mean 42 = .ok (.ireturn, 1) := by decide +kernel
theorem d_X11_mean_43 : decode cX11_mean 43 = .ok (.aload_n 3, 1) := by decide +kernel
theorem d_X11_mean_44 : decode cX11_mean 44 = .ok (.aload_n 0, 1) := by decide +kernel
theorem d_X11_mean_45 : decode cX11_mean 45 = .ok (.getfield 19, 3) := by decide +kernel
theorem d_X11_mean_48 : decode cX11_mean 48 = .ok (.getfield 263, 3) := by decide +kernel
theorem d_X11_mean_51 : decode cX11_mean 51 = .ok (.invokevirtual 271, 3) := by decide +kernel
theorem d_X11_mean_54 : decode cX11_mean 54 = .ok (.aload_n 3, 1) := by decide +kernel
theorem d_X11_mean_55 : decode cX11_mean 55 = .ok (.iload 4, 2) := by decide +kernel
theorem d_X11_mean_57 : decode cX11_mean 57 = .ok (.invokevirtual 271, 3) := by decide +kernel
theorem d_X11_mean_60 : decode cX11_mean 60 = .ok (.isub, 1) := by decide +kernel
theorem d_X11_mean_61 : decode cX11_mean 61 = .ok (.iload_n 2, 1) := by decide +kernel
theorem d_X11_mean_62 : decode cX11_mean 62 = .ok (.idiv, 1) := by decide +kernel
theorem d_X11_mean_63 : decode cX11_mean 63 = .ok (.ireturn, 1) := by decide +kernel
def f_X11_mean_18 (S : Mem) : Option (Int32 × Mem) := (some ((-1), S))
set_option maxRecDepth 20000 in
theorem t_X11_mean_18 {X : MC} {Γ : GG} (C : CX X Γ cX11_mean 5 "TickPools" 1 24) (hr : X.2.2.2.2.2.2.2.2.1.sig.returnType = some .int) {q : Int32 × Mem} (S : Mem) (hf : f_X11_mean_18 S = some q) : ZZ X Γ 5 (QQ X Γ (some (aI q.1)) q.2) S 18 [] [] := by
  unfold f_X11_mean_18 at hf
  refine z_iconst (v := (-1)) C d_X11_mean_18 (by decide) ?_
  exact r_i C hr rfl d_X11_mean_19 hf
def f_X11_mean_31 (v2 : Int32) (v3 : Nat) (v4 : Int32) (S : Mem) : Option (Int32 × Mem) := (if kd v3 = (3, 12) then ((f_X4_firstMark v3 S).bind fun q34 => (if q34.1 ≤ v4 then ((f_X4_sumAt v3 (gI q34.2 78 4) q34.2).bind fun q51 => ((f_X4_sumAt v3 v4 q51.2).bind fun q57 => (if v2 = 0 then none else (some (((q51.1 - q57.1) / v2), q57.2))))) else (some ((-2), q34.2)))) else none)
set_option maxRecDepth 20000 in
theorem t_X11_mean_31 {X : MC} {Γ : GG} (C : CX X Γ cX11_mean 5 "TickPools" 1 24) (hr : X.2.2.2.2.2.2.2.2.1.sig.returnType = some .int) {q : Int32 × Mem} (v2 : Int32) (v3 : Nat) (v4 : Int32) (S : Mem) (hf : f_X11_mean_31 v2 v3 v4 S = some q) : ZZ X Γ 5 (QQ X Γ (some (aI q.1)) q.2) S 31 [(0, aR 1), (2, aI v2), (3, aR v3), (4, aI v4)] [] := by
  unfold f_X11_mean_31 at hf
  refine z_iload (j := 3) C d_X11_mean_31 rfl ?_
  refine z_aload_n (j := 2) C d_X11_mean_33 rfl ?_
  obtain ⟨hg34_0, hf⟩ := gd hf
  obtain ⟨q34, hF, hf⟩ := bd hf
  refine z_callV1 (rest := [aI v4]) C [] hg34_0 (by decide) rfl rfl k_X4_firstMark tw_1087 ⟨by decide, by decide⟩ (Nat.le_of_ble_eq_true rfl) d_X11_mean_34 (c_X4_firstMark C.inj hF) rfl ?_
  refine z_icmp_ge (tgt := 43) C d_X11_mean_37 (by decide) hf (fun c37 hf => ?_) (fun c37 hf => ?_)
  · refine z_aload_n (j := 2) C d_X11_mean_43 rfl ?_
    refine z_aload_n (j := 0) C d_X11_mean_44 rfl ?_
    refine zg_X11_live C rfl tw_461 d_X11_mean_45 ?_
    refine zg_X2_time C rfl tw_204 d_X11_mean_48 ?_
    obtain ⟨q51, hF, hf⟩ := bd hf
    refine z_callV1 (rest := []) C [aI (gI q34.2 78 4)] hg34_0 (by decide) rfl rfl k_X4_sumAt tw_1091 ⟨by decide, by decide⟩ (Nat.le_of_ble_eq_true rfl) d_X11_mean_51 (c_X4_sumAt C.inj hF) rfl ?_
    refine z_aload_n (j := 2) C d_X11_mean_54 rfl ?_
    refine z_iload (j := 3) C d_X11_mean_55 rfl ?_
    obtain ⟨q57, hF, hf⟩ := bd hf
    refine z_callV1 (rest := [aI q51.1]) C [aI v4] hg34_0 (by decide) rfl rfl k_X4_sumAt tw_1091 ⟨by decide, by decide⟩ (Nat.le_of_ble_eq_true rfl) d_X11_mean_57 (c_X4_sumAt C.inj hF) rfl ?_
    refine z_isub C d_X11_mean_60 ?_
    refine z_iload_n (j := 1) C d_X11_mean_61 rfl ?_
    obtain ⟨hz62, hf⟩ := gdn hf
    refine z_idiv C d_X11_mean_62 hz62 ?_
    exact r_i C hr rfl d_X11_mean_63 hf
  · refine z_bipush (v := (-2)) C d_X11_mean_40 (by decide) ?_
    exact r_i C hr rfl d_X11_mean_42 hf
/-- TickPools.mean(II)I -/
def f_X11_mean (p1 : Int32) (p2 : Int32) (S : Mem) : Option (Int32 × Mem) := ((f_X2_poolAt 78 p1 S).bind fun q5 => (if q5.1 = 0 then (f_X11_mean_18  q5.2) else (if 1 ≤ p2 then (f_X11_mean_31  p2 q5.1 ((gI q5.2 78 4) - p2) q5.2) else (f_X11_mean_18  q5.2))))
set_option maxRecDepth 20000 in
theorem c_X11_mean {l : Launch} {Γ : GG} (hI : Inj Γ) {p1 : Int32} {p2 : Int32} {S : Mem} {q : Int32 × Mem} (hf : f_X11_mean p1 p2 S = some q) : MM l Γ yX11_mean cX11_mean 5 (some .int) 1 24 [aR 1, aI p1, aI p2] S (some (aI q.1)) q.2 := by
  refine met_of hI "TickPools" rfl (by decide +kernel) (Nat.le_of_ble_eq_true rfl) (fun X hX C hr => ?_)
  unfold f_X11_mean at hf
  show ZZ X Γ 5 _ S 0 [(0, aR 1), (1, aI p1), (2, aI p2)] []
  refine z_aload_n (j := 0) C d_X11_mean_0 rfl ?_
  refine zg_X11_live C rfl tw_461 d_X11_mean_1 ?_
  refine z_iload_n (j := 1) C d_X11_mean_4 rfl ?_
  obtain ⟨q5, hF, hf⟩ := bd hf
  refine z_callV1 (rest := []) C [aI p1] rfl (by decide) rfl rfl k_X2_poolAt tw_1021 ⟨by decide, by decide⟩ (Nat.le_of_ble_eq_true rfl) d_X11_mean_5 (c_X2_poolAt C.inj hF) rfl ?_
  refine z_astore_n (lv' := [(3, aR q5.1), (0, aR 1), (1, aI p1), (2, aI p2)]) C d_X11_mean_8 (by decide) rfl ?_
  refine z_aload_n (j := 0) C d_X11_mean_9 rfl ?_
  refine z_ifnull (tgt := 18) C d_X11_mean_10 (by decide) hf (fun c10 hf => ?_) (fun c10 hf => ?_)
  · exact z_sub [] rfl (t_X11_mean_18 C hr  _ hf)
  · refine z_iload_n (j := 3) C d_X11_mean_13 rfl ?_
    refine z_iconst (v := 1) C d_X11_mean_14 (by decide) ?_
    refine z_icmp_ge (tgt := 20) C d_X11_mean_15 (by decide) hf (fun c15 hf => ?_) (fun c15 hf => ?_)
    · refine z_aload_n (j := 1) C d_X11_mean_20 rfl ?_
      refine zg_X11_live C rfl tw_461 d_X11_mean_21 ?_
      refine zg_X2_time C rfl tw_204 d_X11_mean_24 ?_
      refine z_iload_n (j := 3) C d_X11_mean_27 rfl ?_
      refine z_isub C d_X11_mean_28 ?_
      refine z_istore (lv' := [(4, aI ((gI q5.2 78 4) - p2)), (3, aR q5.1), (0, aR 1), (1, aI p1), (2, aI p2)]) C d_X11_mean_29 (by decide) rfl ?_
      exact z_sub [2, 4, 1, 0] rfl (t_X11_mean_31 C hr  _ _ _ _ hf)
    · exact z_sub [] rfl (t_X11_mean_18 C hr  _ hf)
theorem d_X11_canAsk_0 : decode cX11_canAsk 0 = .ok (.aload_n 0, 1) := by decide +kernel
theorem d_X11_canAsk_1 : decode cX11_canAsk 1 = .ok (.getfield 19, 3) := by decide +kernel
theorem d_X11_canAsk_4 : decode cX11_canAsk 4 = .ok (.iload_n 1, 1) := by decide +kernel
theorem d_X11_canAsk_5 : decode cX11_canAsk 5 = .ok (.invokevirtual 132, 3) := by decide +kernel
theorem d_X11_canAsk_8 : decode cX11_canAsk 8 = .ok (.ifnull 21, 3) := by decide +kernel
theorem d_X11_canAsk_11 : decode cX11_canAsk 11 = .ok (.iload_n 2, 1) := by decide +kernel
theorem d_X11_canAsk_12 : decode cX11_canAsk 12 = .ok (.invokestatic 233, 3) := by decide +kernel
theorem d_X11_canAsk_15 : decode cX11_canAsk 15 = .ok (.ifCond .eq 14, 3) := by decide +kernel
theorem d_X11_canAsk_18 : decode cX11_canAsk 18 = .ok (.iload_n 3, 1) := by decide +kernel
theorem d_X11_canAsk_19 : decode cX11_canAsk 19 = .ok (.invokestatic 247, 3) := by decide +kernel
theorem d_X11_canAsk_22 : decode cX11_canAsk 22 = .ok (.ifCond .eq 7, 3) := by decide +kernel
theorem d_X11_canAsk_25 : decode cX11_canAsk 25 = .ok (.iconst 1, 1) := by decide +kernel
theorem d_X11_canAsk_26 : decode cX11_canAsk 26 = .ok (.goto 4, 3) := by decide +kernel
theorem d_X11_canAsk_29 : decode cX11_canAsk 29 = .ok (.iconst 0, 1) := by decide +kernel
theorem d_X11_canAsk_30 : decode cX11_canAsk 30 = .ok (.ireturn, 1) := by decide +kernel
def f_X11_canAsk_30 (s0 : Int32) (S : Mem) : Option (Int32 × Mem) := (if isB s0 = true then (some (s0, S)) else none)
set_option maxRecDepth 20000 in
theorem t_X11_canAsk_30 {X : MC} {Γ : GG} (C : CX X Γ cX11_canAsk 4 "TickPools" 1 21) (hr : X.2.2.2.2.2.2.2.2.1.sig.returnType = some .boolean) {q : Int32 × Mem} (s0 : Int32) (S : Mem) (hf : f_X11_canAsk_30 s0 S = some q) : ZZ X Γ 4 (QQ X Γ (some (aI q.1)) q.2) S 30 [] [aI s0] := by
  unfold f_X11_canAsk_30 at hf
  obtain ⟨hb30_0, hf⟩ := gd hf
  exact r_i C hr (isB_nar hb30_0).1 d_X11_canAsk_30 hf
def f_X11_canAsk_29 (S : Mem) : Option (Int32 × Mem) := (f_X11_canAsk_30  0 S)
set_option maxRecDepth 20000 in
theorem t_X11_canAsk_29 {X : MC} {Γ : GG} (C : CX X Γ cX11_canAsk 4 "TickPools" 1 21) (hr : X.2.2.2.2.2.2.2.2.1.sig.returnType = some .boolean) {q : Int32 × Mem} (S : Mem) (hf : f_X11_canAsk_29 S = some q) : ZZ X Γ 4 (QQ X Γ (some (aI q.1)) q.2) S 29 [] [] := by
  unfold f_X11_canAsk_29 at hf
  refine z_iconst (v := 0) C d_X11_canAsk_29 (by decide) ?_
  exact z_sub [] rfl (t_X11_canAsk_30 C hr  _ _ hf)
/-- TickPools.canAsk(III)Z -/
def f_X11_canAsk (p1 : Int32) (p2 : Int32) (p3 : Int32) (S : Mem) : Option (Int32 × Mem) := ((f_X2_poolAt 78 p1 S).bind fun q5 => (if q5.1 = 0 then (f_X11_canAsk_29  q5.2) else ((f_X11_isSide p2 q5.2).bind fun q12 => (if q12.1 = 0 then (f_X11_canAsk_29  q12.2) else ((f_X11_isAmount p3 q12.2).bind fun q19 => (if q19.1 = 0 then (f_X11_canAsk_29  q19.2) else (f_X11_canAsk_30  1 q19.2)))))))
set_option maxRecDepth 20000 in
theorem c_X11_canAsk {l : Launch} {Γ : GG} (hI : Inj Γ) {p1 : Int32} {p2 : Int32} {p3 : Int32} {S : Mem} {q : Int32 × Mem} (hf : f_X11_canAsk p1 p2 p3 S = some q) : MM l Γ yX11_canAsk cX11_canAsk 4 (some .boolean) 1 21 [aR 1, aI p1, aI p2, aI p3] S (some (aI q.1)) q.2 := by
  refine met_of hI "TickPools" rfl (by decide +kernel) (Nat.le_of_ble_eq_true rfl) (fun X hX C hr => ?_)
  unfold f_X11_canAsk at hf
  show ZZ X Γ 4 _ S 0 [(0, aR 1), (1, aI p1), (2, aI p2), (3, aI p3)] []
  refine z_aload_n (j := 0) C d_X11_canAsk_0 rfl ?_
  refine zg_X11_live C rfl tw_461 d_X11_canAsk_1 ?_
  refine z_iload_n (j := 1) C d_X11_canAsk_4 rfl ?_
  obtain ⟨q5, hF, hf⟩ := bd hf
  refine z_callV1 (rest := []) C [aI p1] rfl (by decide) rfl rfl k_X2_poolAt tw_1021 ⟨by decide, by decide⟩ (Nat.le_of_ble_eq_true rfl) d_X11_canAsk_5 (c_X2_poolAt C.inj hF) rfl ?_
  refine z_ifnull (tgt := 29) C d_X11_canAsk_8 (by decide) hf (fun c8 hf => ?_) (fun c8 hf => ?_)
  · exact z_sub [] rfl (t_X11_canAsk_29 C hr  _ hf)
  · refine z_iload_n (j := 2) C d_X11_canAsk_11 rfl ?_
    obtain ⟨q12, hF, hf⟩ := bd hf
    refine z_callS1 (rest := []) C [aI p2] k_X11_isSide tw_1067 ⟨by decide, by decide⟩ (Nat.le_of_ble_eq_true rfl) d_X11_canAsk_12 (c_X11_isSide C.inj hF) rfl ?_
    refine z_if_eq (tgt := 29) C d_X11_canAsk_15 (by decide) hf (fun c15 hf => ?_) (fun c15 hf => ?_)
    · exact z_sub [] rfl (t_X11_canAsk_29 C hr  _ hf)
    · refine z_iload_n (j := 3) C d_X11_canAsk_18 rfl ?_
      obtain ⟨q19, hF, hf⟩ := bd hf
      refine z_callS1 (rest := []) C [aI p3] k_X11_isAmount tw_1074 ⟨by decide, by decide⟩ (Nat.le_of_ble_eq_true rfl) d_X11_canAsk_19 (c_X11_isAmount C.inj hF) rfl ?_
      refine z_if_eq (tgt := 29) C d_X11_canAsk_22 (by decide) hf (fun c22 hf => ?_) (fun c22 hf => ?_)
      · exact z_sub [] rfl (t_X11_canAsk_29 C hr  _ hf)
      · refine z_iconst (v := 1) C d_X11_canAsk_25 (by decide) ?_
        refine z_goto (tgt := 30) C d_X11_canAsk_26 (by decide) ?_
        exact z_sub [] rfl (t_X11_canAsk_30 C hr  _ _ hf)
theorem d_X11_quoteIn_0 : decode cX11_quoteIn 0 = .ok (.aload_n 0, 1) := by decide +kernel
theorem d_X11_quoteIn_1 : decode cX11_quoteIn 1 = .ok (.iload_n 1, 1) := by decide +kernel
theorem d_X11_quoteIn_2 : decode cX11_quoteIn 2 = .ok (.iload_n 2, 1) := by decide +kernel
theorem d_X11_quoteIn_3 : decode cX11_quoteIn 3 = .ok (.iload_n 3, 1) := by decide +kernel
theorem d_X11_quoteIn_4 : decode cX11_quoteIn 4 = .ok (.invokevirtual 274, 3) := by decide +kernel
theorem d_X11_quoteIn_7 : decode cX11_quoteIn 7 = .ok (.ifCond .eq 11, 3) := by decide +kernel
theorem d_X11_quoteIn_10 : decode cX11_quoteIn 10 = .ok (.iload 4, 2) := by decide +kernel
theorem d_X11_quoteIn_12 : decode cX11_quoteIn 12 = .ok (.invokestatic 116, 3) := by decide +kernel
theorem d_X11_quoteIn_15 : decode cX11_quoteIn 15 = .ok (.ifCond .ne 5, 3) := by decide +kernel
theorem d_X11_quoteIn_18 : decode cX11_quoteIn 18 = .ok (.iconst (-1), 1) := by decide +kernel
theorem d_X11_quoteIn_19 : decode cX11_quoteIn 19 = .ok (.ireturn, 1) := by decide +kernel
theorem d_X11_quoteIn_20 : decode cX11_quoteIn 20 = .ok (.aload_n 0, 1) := by decide +kernel
theorem d_X11_quoteIn_21 : decode cX11_quoteIn 21 = .ok (.getfield 29, 3) := by decide +kernel
theorem d_X11_quoteIn_24 : decode cX11_quoteIn 24 = .ok (.aload_n 0, 1) := by decide +kernel
theorem d_X11_quoteIn_25 : decode cX11_quoteIn 25 = .ok (.getfield 19, 3) := by decide +kernel
theorem d_X11_quoteIn_28 : decode cX11_quoteIn 28 = .ok (.iconst (-1), 1) := by decide +kernel
theorem d_X11_quoteIn_29 : decode cX11_quoteIn 29 = .ok (.iload_n 1, 1) := by decide +kernel
theorem d_X11_quoteIn_30 : decode cX11_quoteIn 30 = .ok (.iload_n 2, 1) := by decide +kernel
theorem d_X11_quoteIn_31 : decode cX11_quoteIn 31 = .ok (.iload_n 3, 1) := by decide +kernel
theorem d_X11_quoteIn_32 : decode cX11_quoteIn 32 = .ok (.i2l, 1) := by decide +kernel
theorem d_X11_quoteIn_33 : decode cX11_quoteIn 33 = .ok (.iload 4, 2) := by decide +kernel
theorem d_X11_quoteIn_35 : decode cX11_quoteIn 35 = .ok (.iconst 0, 1) := by decide +kernel
theorem d_X11_quoteIn_36 : decode cX11_quoteIn 36 = .ok (.invokevirtual 239, 3) := by decide +kernel
theorem d_X11_quoteIn_39 : decode cX11_quoteIn 39 = .ok (.iload 5, 2) := by decide +kernel
theorem d_X11_quoteIn_41 : decode cX11_quoteIn 41 = .ok (.tableswitch 78 0 4 #[35, 44, 53, 62, 70], 35) := by decide +kernel
theorem d_X11_quoteIn_76 : decode cX11_quoteIn 76 = .ok (.aload_n 0, 1) := by decide +kernel
theorem d_X11_quoteIn_77 : decode cX11_quoteIn 77 = .ok (.getfield 29, 3) := by decide +kernel
theorem d_X11_quoteIn_80 : decode cX11_quoteIn 80 = .ok (.getfield 243, 3) := by decide +kernel
theorem d_X11_quoteIn_83 : decode cX11_quoteIn 83 = .ok (.l2i, 1) := by decide +kernel
theorem d_X11_quoteIn_84 : decode cX11_quoteIn 84 = .ok (.ireturn, 1) := by decide +kernel
theorem d_X11_quoteIn_85 : decode cX11_quoteIn 85 = .ok (.aload_n 0, 1) := by decide +kernel
theorem d_X11_quoteIn_86 : decode cX11_quoteIn 86 = .ok (.getfield 29, 3) := by decide +kernel
theorem d_X11_quoteIn_89 : decode cX11_quoteIn 89 = .ok (.getfield 254, 3) := by decide +kernel
theorem d_X11_quoteIn_92 : decode cX11_quoteIn 92 = .ok (.l2i, 1) := by decide +kernel
theorem d_X11_quoteIn_93 : decode cX11_quoteIn 93 = .ok (.ireturn, 1) := by decide +kernel
theorem d_X11_quoteIn_94 : decode cX11_quoteIn 94 = .ok (.aload_n 0, 1) := by decide +kernel
theorem d_X11_quoteIn_95 : decode cX11_quoteIn 95 = .ok (.getfield 29, 3) := by decide +kernel
theorem d_X11_quoteIn_98 : decode cX11_quoteIn 98 = .ok (.getfield 278, 3) := by decide +kernel
theorem d_X11_quoteIn_101 : decode cX11_quoteIn 101 = .ok (.l2i, 1) := by decide +kernel
theorem d_X11_quoteIn_102 : decode cX11_quoteIn 102 = .ok (.ireturn, 1) := by decide +kernel
theorem d_X11_quoteIn_103 : decode cX11_quoteIn 103 = .ok (.aload_n 0, 1) := by decide +kernel
theorem d_X11_quoteIn_104 : decode cX11_quoteIn 104 = .ok (.getfield 29, 3) := by decide +kernel
theorem d_X11_quoteIn_107 : decode cX11_quoteIn 107 = .ok (.getfield 281, 3) := by decide +kernel
theorem d_X11_quoteIn_110 : decode cX11_quoteIn 110 = .ok (.ireturn, 1) := by decide +kernel
theorem d_X11_quoteIn_111 : decode cX11_quoteIn 111 = .ok (.aload_n 0, 1) := by decide +kernel
theorem d_X11_quoteIn_112 : decode cX11_quoteIn 112 = .ok (.getfield 29, 3) := by decide +kernel
theorem d_X11_quoteIn_115 : decode cX11_quoteIn 115 = .ok (.getfield 282, 3) := by decide +kernel
theorem d_X11_quoteIn_118 : decode cX11_quoteIn 118 = .ok (.ireturn, 1) := by decide +kernel
theorem d_X11_quoteIn_119 : decode cX11_quoteIn 119 = .ok (.iconst (-1), 1) := by decide +kernel
theorem d_X11_quoteIn_120 : decode cX11_quoteIn 120 = .ok (.ireturn, 1) := by decide +kernel
def f_X11_quoteIn_18 (S : Mem) : Option (Int32 × Mem) := (some ((-1), S))
set_option maxRecDepth 20000 in
theorem t_X11_quoteIn_18 {X : MC} {Γ : GG} (C : CX X Γ cX11_quoteIn 6 "TickPools" 5 148) (hr : X.2.2.2.2.2.2.2.2.1.sig.returnType = some .int) {q : Int32 × Mem} (S : Mem) (hf : f_X11_quoteIn_18 S = some q) : ZZ X Γ 6 (QQ X Γ (some (aI q.1)) q.2) S 18 [] [] := by
  unfold f_X11_quoteIn_18 at hf
  refine z_iconst (v := (-1)) C d_X11_quoteIn_18 (by decide) ?_
  exact r_i C hr rfl d_X11_quoteIn_19 hf
/-- TickPools.quoteIn(IIIII)I -/
def f_X11_quoteIn (p1 : Int32) (p2 : Int32) (p3 : Int32) (p4 : Int32) (p5 : Int32) (S : Mem) : Option (Int32 × Mem) := ((f_X11_canAsk p1 p2 p3 S).bind fun q4 => (if q4.1 = 0 then (f_X11_quoteIn_18  q4.2) else ((f_X11_isTick p4 q4.2).bind fun q12 => (if q12.1 = 0 then (f_X11_quoteIn_18  q12.2) else ((f_X10_pour 78 (-1) p1 p2 (p3.toInt64) p4 0 q12.2).bind fun q36 => (if p5 = 0 then (some ((((gL q36.2 4 11) : Int64).toInt32), q36.2)) else (if p5 = 1 then (some ((((gL q36.2 4 10) : Int64).toInt32), q36.2)) else (if p5 = 2 then (some ((((gL q36.2 4 13) : Int64).toInt32), q36.2)) else (if p5 = 3 then (some ((gI q36.2 4 8), q36.2)) else (if p5 = 4 then (some ((gI q36.2 4 9), q36.2)) else (some ((-1), q36.2))))))))))))
set_option maxRecDepth 20000 in
theorem c_X11_quoteIn {l : Launch} {Γ : GG} (hI : Inj Γ) {p1 : Int32} {p2 : Int32} {p3 : Int32} {p4 : Int32} {p5 : Int32} {S : Mem} {q : Int32 × Mem} (hf : f_X11_quoteIn p1 p2 p3 p4 p5 S = some q) : MM l Γ yX11_quoteIn cX11_quoteIn 6 (some .int) 5 148 [aR 1, aI p1, aI p2, aI p3, aI p4, aI p5] S (some (aI q.1)) q.2 := by
  refine met_of hI "TickPools" rfl (by decide +kernel) (Nat.le_of_ble_eq_true rfl) (fun X hX C hr => ?_)
  unfold f_X11_quoteIn at hf
  show ZZ X Γ 6 _ S 0 [(0, aR 1), (1, aI p1), (2, aI p2), (3, aI p3), (4, aI p4), (5, aI p5)] []
  refine z_aload_n (j := 0) C d_X11_quoteIn_0 rfl ?_
  refine z_iload_n (j := 1) C d_X11_quoteIn_1 rfl ?_
  refine z_iload_n (j := 2) C d_X11_quoteIn_2 rfl ?_
  refine z_iload_n (j := 3) C d_X11_quoteIn_3 rfl ?_
  obtain ⟨q4, hF, hf⟩ := bd hf
  refine z_callV1 (rest := []) C [aI p1, aI p2, aI p3] rfl (by decide) rfl rfl k_X11_canAsk tw_1096 ⟨by decide, by decide⟩ (Nat.le_of_ble_eq_true rfl) d_X11_quoteIn_4 (c_X11_canAsk C.inj hF) rfl ?_
  refine z_if_eq (tgt := 18) C d_X11_quoteIn_7 (by decide) hf (fun c7 hf => ?_) (fun c7 hf => ?_)
  · exact z_sub [] rfl (t_X11_quoteIn_18 C hr  _ hf)
  · refine z_iload (j := 4) C d_X11_quoteIn_10 rfl ?_
    obtain ⟨q12, hF, hf⟩ := bd hf
    refine z_callS1 (rest := []) C [aI p4] k_X11_isTick tw_1009 ⟨by decide, by decide⟩ (Nat.le_of_ble_eq_true rfl) d_X11_quoteIn_12 (c_X11_isTick C.inj hF) rfl ?_
    refine z_if_ne (tgt := 20) C d_X11_quoteIn_15 (by decide) hf (fun c15 hf => ?_) (fun c15 hf => ?_)
    · refine z_aload_n (j := 0) C d_X11_quoteIn_20 rfl ?_
      refine zg_X11_trade C rfl tw_466 d_X11_quoteIn_21 ?_
      refine z_aload_n (j := 0) C d_X11_quoteIn_24 rfl ?_
      refine zg_X11_live C rfl tw_461 d_X11_quoteIn_25 ?_
      refine z_iconst (v := (-1)) C d_X11_quoteIn_28 (by decide) ?_
      refine z_iload_n (j := 1) C d_X11_quoteIn_29 rfl ?_
      refine z_iload_n (j := 2) C d_X11_quoteIn_30 rfl ?_
      refine z_iload_n (j := 3) C d_X11_quoteIn_31 rfl ?_
      refine z_i2l C d_X11_quoteIn_32 ?_
      refine z_iload (j := 4) C d_X11_quoteIn_33 rfl ?_
      refine z_iconst (v := 0) C d_X11_quoteIn_35 (by decide) ?_
      obtain ⟨q36, hF, hf⟩ := bd hf
      refine z_callV0 (rest := []) C [aR 78, aI (-1), aI p1, aI p2, aJ (p3.toInt64), aI p4, aI 0] rfl (by decide) rfl rfl k_X10_pour tw_1069 ⟨by decide, by decide⟩ (Nat.le_of_ble_eq_true rfl) d_X11_quoteIn_36 (c_X10_pour C.inj hF) rfl ?_
      refine z_iload (j := 5) C d_X11_quoteIn_39 rfl ?_
      by_cases c41_0 : p5 = 0
      · rw [if_pos c41_0] at hf
        refine z_tin (tgt := 76) C d_X11_quoteIn_41 (by rw [c41_0]; decide) (by rw [c41_0]; decide) (by rw [c41_0]; rfl) (by decide) ?_
        refine z_aload_n (j := 0) C d_X11_quoteIn_76 rfl ?_
        refine zg_X11_trade C rfl tw_466 d_X11_quoteIn_77 ?_
        refine zg_X10_gave C rfl tw_254 d_X11_quoteIn_80 ?_
        refine z_l2i C d_X11_quoteIn_83 ?_
        exact r_i C hr rfl d_X11_quoteIn_84 hf
      rw [if_neg c41_0] at hf
      have d41_0 := tn (n := 0) c41_0 (by decide)
      by_cases c41_1 : p5 = 1
      · rw [if_pos c41_1] at hf
        refine z_tin (tgt := 85) C d_X11_quoteIn_41 (by rw [c41_1]; decide) (by rw [c41_1]; decide) (by rw [c41_1]; rfl) (by decide) ?_
        refine z_aload_n (j := 0) C d_X11_quoteIn_85 rfl ?_
        refine zg_X11_trade C rfl tw_466 d_X11_quoteIn_86 ?_
        refine zg_X10_left C rfl tw_250 d_X11_quoteIn_89 ?_
        refine z_l2i C d_X11_quoteIn_92 ?_
        exact r_i C hr rfl d_X11_quoteIn_93 hf
      rw [if_neg c41_1] at hf
      have d41_1 := tn (n := 1) c41_1 (by decide)
      by_cases c41_2 : p5 = 2
      · rw [if_pos c41_2] at hf
        refine z_tin (tgt := 94) C d_X11_quoteIn_41 (by rw [c41_2]; decide) (by rw [c41_2]; decide) (by rw [c41_2]; rfl) (by decide) ?_
        refine z_aload_n (j := 0) C d_X11_quoteIn_94 rfl ?_
        refine zg_X11_trade C rfl tw_466 d_X11_quoteIn_95 ?_
        refine zg_X10_fees C rfl tw_259 d_X11_quoteIn_98 ?_
        refine z_l2i C d_X11_quoteIn_101 ?_
        exact r_i C hr rfl d_X11_quoteIn_102 hf
      rw [if_neg c41_2] at hf
      have d41_2 := tn (n := 2) c41_2 (by decide)
      by_cases c41_3 : p5 = 3
      · rw [if_pos c41_3] at hf
        refine z_tin (tgt := 103) C d_X11_quoteIn_41 (by rw [c41_3]; decide) (by rw [c41_3]; decide) (by rw [c41_3]; rfl) (by decide) ?_
        refine z_aload_n (j := 0) C d_X11_quoteIn_103 rfl ?_
        refine zg_X11_trade C rfl tw_466 d_X11_quoteIn_104 ?_
        refine zg_X10_zone C rfl tw_245 d_X11_quoteIn_107 ?_
        exact r_i C hr rfl d_X11_quoteIn_110 hf
      rw [if_neg c41_3] at hf
      have d41_3 := tn (n := 3) c41_3 (by decide)
      by_cases c41_4 : p5 = 4
      · rw [if_pos c41_4] at hf
        refine z_tin (tgt := 111) C d_X11_quoteIn_41 (by rw [c41_4]; decide) (by rw [c41_4]; decide) (by rw [c41_4]; rfl) (by decide) ?_
        refine z_aload_n (j := 0) C d_X11_quoteIn_111 rfl ?_
        refine zg_X11_trade C rfl tw_466 d_X11_quoteIn_112 ?_
        refine zg_X10_crossed C rfl tw_247 d_X11_quoteIn_115 ?_
        exact r_i C hr rfl d_X11_quoteIn_118 hf
      rw [if_neg c41_4] at hf
      have d41_4 := tn (n := 4) c41_4 (by decide)
      refine z_tout (tgt := 119) C d_X11_quoteIn_41 (by omega) (by decide) ?_
      refine z_iconst (v := (-1)) C d_X11_quoteIn_119 (by decide) ?_
      exact r_i C hr rfl d_X11_quoteIn_120 hf
    · exact z_sub [] rfl (t_X11_quoteIn_18 C hr  _ hf)
theorem d_X11_quoteOut_0 : decode cX11_quoteOut 0 = .ok (.aload_n 0, 1) := by decide +kernel
theorem d_X11_quoteOut_1 : decode cX11_quoteOut 1 = .ok (.iload_n 1, 1) := by decide +kernel
theorem d_X11_quoteOut_2 : decode cX11_quoteOut 2 = .ok (.iload_n 2, 1) := by decide +kernel
theorem d_X11_quoteOut_3 : decode cX11_quoteOut 3 = .ok (.iload_n 3, 1) := by decide +kernel
theorem d_X11_quoteOut_4 : decode cX11_quoteOut 4 = .ok (.invokevirtual 274, 3) := by decide +kernel
theorem d_X11_quoteOut_7 : decode cX11_quoteOut 7 = .ok (.ifCond .eq 14, 3) := by decide +kernel
theorem d_X11_quoteOut_10 : decode cX11_quoteOut 10 = .ok (.iload 4, 2) := by decide +kernel
theorem d_X11_quoteOut_12 : decode cX11_quoteOut 12 = .ok (.ifCond .lt 9, 3) := by decide +kernel
theorem d_X11_quoteOut_15 : decode cX11_quoteOut 15 = .ok (.iload 4, 2) := by decide +kernel
theorem d_X11_quoteOut_17 : decode cX11_quoteOut 17 = .ok (.iconst 3, 1) := by decide +kernel
theorem d_X11_quoteOut_18 : decode cX11_quoteOut 18 = .ok (.if_icmp .le 5, 3) := by decide +kernel
theorem d_X11_quoteOut_21 : decode cX11_quoteOut 21 = .ok (.iconst (-1), 1) := by decide +kernel
theorem d_X11_quoteOut_22 : decode cX11_quoteOut 22 = .ok (.ireturn, 1) := by decide +kernel
theorem d_X11_quoteOut_23 : decode cX11_quoteOut 23 = .ok (.aload_n 0, 1) := by decide +kernel
theorem d_X11_quoteOut_24 : decode cX11_quoteOut 24 = .ok (.getfield 29, 3) := by decide +kernel
theorem d_X11_quoteOut_27 : decode cX11_quoteOut 27 = .ok (.aload_n 0, 1) := by decide +kernel
theorem d_X11_quoteOut_28 : decode cX11_quoteOut 28 = .ok (.getfield 19, 3) := by decide +kernel
theorem d_X11_quoteOut_31 : decode cX11_quoteOut 31 = .ok (.iconst (-1), 1) := by decide +kernel
theorem d_X11_quoteOut_32 : decode cX11_quoteOut 32 = .ok (.iload_n 1, 1) := by decide +kernel
theorem d_X11_quoteOut_33 : decode cX11_quoteOut 33 = .ok (.iload_n 2, 1) := by decide +kernel
theorem d_X11_quoteOut_34 : decode cX11_quoteOut 34 = .ok (.iload_n 3, 1) := by decide +kernel
theorem d_X11_quoteOut_35 : decode cX11_quoteOut 35 = .ok (.i2l, 1) := by decide +kernel
theorem d_X11_quoteOut_36 : decode cX11_quoteOut 36 = .ok (.iconst 0, 1) := by decide +kernel
theorem d_X11_quoteOut_37 : decode cX11_quoteOut 37 = .ok (.invokevirtual 250, 3) := by decide +kernel
theorem d_X11_quoteOut_40 : decode cX11_quoteOut 40 = .ok (.aload_n 0, 1) := by decide +kernel
theorem d_X11_quoteOut_41 : decode cX11_quoteOut 41 = .ok (.getfield 29, 3) := by decide +kernel
theorem d_X11_quoteOut_44 : decode cX11_quoteOut 44 = .ok (.getfield 254, 3) := by decide +kernel
theorem d_X11_quoteOut_47 : decode cX11_quoteOut 47 = .ok (.lconst 0, 1) := by decide +kernel
theorem d_X11_quoteOut_48 : decode cX11_quoteOut 48 = .ok (.lcmp, 1) := by decide +kernel
theorem d_X11_quoteOut_49 : decode cX11_quoteOut 49 = .ok (.ifCond .le 6, 3) := by decide +kernel
theorem d_X11_quoteOut_52 : decode cX11_quoteOut 52 = .ok (.bipush (-2), 2) := by decide +kernel
theorem d_X11_quoteOut_54 : decode cX11_quoteOut 54 = .ok (.ireturn, 1) := by decide +kernel
theorem d_X11_quoteOut_55 : decode cX11_quoteOut 55 = .ok (.iload 4, 2) := by decide +kernel
theorem d_X11_quoteOut_57 : decode cX11_quoteOut 57 = .ok (.tableswitch 53 0 2 #[27, 36, 45], 27) := by decide +kernel
theorem d_X11_quoteOut_84 : decode cX11_quoteOut 84 = .ok (.aload_n 0, 1) := by decide +kernel
theorem d_X11_quoteOut_85 : decode cX11_quoteOut 85 = .ok (.getfield 29, 3) := by decide +kernel
theorem d_X11_quoteOut_88 : decode cX11_quoteOut 88 = .ok (.getfield 257, 3) := by decide +kernel
theorem d_X11_quoteOut_91 : decode cX11_quoteOut 91 = .ok (.l2i, 1) := by decide +kernel
theorem d_X11_quoteOut_92 : decode cX11_quoteOut 92 = .ok (.ireturn, 1) := by decide +kernel
theorem d_X11_quoteOut_93 : decode cX11_quoteOut 93 = .ok (.aload_n 0, 1) := by decide +kernel
theorem d_X11_quoteOut_94 : decode cX11_quoteOut 94 = .ok (.getfield 29, 3) := by decide +kernel
theorem d_X11_quoteOut_97 : decode cX11_quoteOut 97 = .ok (.getfield 278, 3) := by decide +kernel
theorem d_X11_quoteOut_100 : decode cX11_quoteOut 100 = .ok (.l2i, 1) := by decide +kernel
theorem d_X11_quoteOut_101 : decode cX11_quoteOut 101 = .ok (.ireturn, 1) := by decide +kernel
theorem d_X11_quoteOut_102 : decode cX11_quoteOut 102 = .ok (.aload_n 0, 1) := by decide +kernel
theorem d_X11_quoteOut_103 : decode cX11_quoteOut 103 = .ok (.getfield 29, 3) := by decide +kernel
theorem d_X11_quoteOut_106 : decode cX11_quoteOut 106 = .ok (.getfield 281, 3) := by decide +kernel
theorem d_X11_quoteOut_109 : decode cX11_quoteOut 109 = .ok (.ireturn, 1) := by decide +kernel
theorem d_X11_quoteOut_110 : decode cX11_quoteOut 110 = .ok (.aload_n 0, 1) := by decide +kernel
theorem d_X11_quoteOut_111 : decode cX11_quoteOut 111 = .ok (.getfield 29, 3) := by decide +kernel
theorem d_X11_quoteOut_114 : decode cX11_quoteOut 114 = .ok (.getfield 282, 3) := by decide +kernel
theorem d_X11_quoteOut_117 : decode cX11_quoteOut 117 = .ok (.ireturn, 1) := by decide +kernel
def f_X11_quoteOut_21 (S : Mem) : Option (Int32 × Mem) := (some ((-1), S))
set_option maxRecDepth 20000 in
theorem t_X11_quoteOut_21 {X : MC} {Γ : GG} (C : CX X Γ cX11_quoteOut 5 "TickPools" 5 146) (hr : X.2.2.2.2.2.2.2.2.1.sig.returnType = some .int) {q : Int32 × Mem} (S : Mem) (hf : f_X11_quoteOut_21 S = some q) : ZZ X Γ 5 (QQ X Γ (some (aI q.1)) q.2) S 21 [] [] := by
  unfold f_X11_quoteOut_21 at hf
  refine z_iconst (v := (-1)) C d_X11_quoteOut_21 (by decide) ?_
  exact r_i C hr rfl d_X11_quoteOut_22 hf
/-- TickPools.quoteOut(IIII)I -/
def f_X11_quoteOut (p1 : Int32) (p2 : Int32) (p3 : Int32) (p4 : Int32) (S : Mem) : Option (Int32 × Mem) := ((f_X11_canAsk p1 p2 p3 S).bind fun q4 => (if q4.1 = 0 then (f_X11_quoteOut_21  q4.2) else (if p4 < 0 then (f_X11_quoteOut_21  q4.2) else (if p4 ≤ 3 then ((f_X10_drain 78 (-1) p1 p2 (p3.toInt64) 0 q4.2).bind fun q37 => (if (gL q37.2 4 10) ≤ 0 then (if p4 = 0 then (some ((((gL q37.2 4 12) : Int64).toInt32), q37.2)) else (if p4 = 1 then (some ((((gL q37.2 4 13) : Int64).toInt32), q37.2)) else (if p4 = 2 then (some ((gI q37.2 4 8), q37.2)) else (some ((gI q37.2 4 9), q37.2))))) else (some ((-2), q37.2)))) else (f_X11_quoteOut_21  q4.2)))))
set_option maxRecDepth 20000 in
theorem c_X11_quoteOut {l : Launch} {Γ : GG} (hI : Inj Γ) {p1 : Int32} {p2 : Int32} {p3 : Int32} {p4 : Int32} {S : Mem} {q : Int32 × Mem} (hf : f_X11_quoteOut p1 p2 p3 p4 S = some q) : MM l Γ yX11_quoteOut cX11_quoteOut 5 (some .int) 5 146 [aR 1, aI p1, aI p2, aI p3, aI p4] S (some (aI q.1)) q.2 := by
  refine met_of hI "TickPools" rfl (by decide +kernel) (Nat.le_of_ble_eq_true rfl) (fun X hX C hr => ?_)
  unfold f_X11_quoteOut at hf
  show ZZ X Γ 5 _ S 0 [(0, aR 1), (1, aI p1), (2, aI p2), (3, aI p3), (4, aI p4)] []
  refine z_aload_n (j := 0) C d_X11_quoteOut_0 rfl ?_
  refine z_iload_n (j := 1) C d_X11_quoteOut_1 rfl ?_
  refine z_iload_n (j := 2) C d_X11_quoteOut_2 rfl ?_
  refine z_iload_n (j := 3) C d_X11_quoteOut_3 rfl ?_
  obtain ⟨q4, hF, hf⟩ := bd hf
  refine z_callV1 (rest := []) C [aI p1, aI p2, aI p3] rfl (by decide) rfl rfl k_X11_canAsk tw_1096 ⟨by decide, by decide⟩ (Nat.le_of_ble_eq_true rfl) d_X11_quoteOut_4 (c_X11_canAsk C.inj hF) rfl ?_
  refine z_if_eq (tgt := 21) C d_X11_quoteOut_7 (by decide) hf (fun c7 hf => ?_) (fun c7 hf => ?_)
  · exact z_sub [] rfl (t_X11_quoteOut_21 C hr  _ hf)
  · refine z_iload (j := 4) C d_X11_quoteOut_10 rfl ?_
    refine z_if_lt (tgt := 21) C d_X11_quoteOut_12 (by decide) hf (fun c12 hf => ?_) (fun c12 hf => ?_)
    · exact z_sub [] rfl (t_X11_quoteOut_21 C hr  _ hf)
    · refine z_iload (j := 4) C d_X11_quoteOut_15 rfl ?_
      refine z_iconst (v := 3) C d_X11_quoteOut_17 (by decide) ?_
      refine z_icmp_le (tgt := 23) C d_X11_quoteOut_18 (by decide) hf (fun c18 hf => ?_) (fun c18 hf => ?_)
      · refine z_aload_n (j := 0) C d_X11_quoteOut_23 rfl ?_
        refine zg_X11_trade C rfl tw_466 d_X11_quoteOut_24 ?_
        refine z_aload_n (j := 0) C d_X11_quoteOut_27 rfl ?_
        refine zg_X11_live C rfl tw_461 d_X11_quoteOut_28 ?_
        refine z_iconst (v := (-1)) C d_X11_quoteOut_31 (by decide) ?_
        refine z_iload_n (j := 1) C d_X11_quoteOut_32 rfl ?_
        refine z_iload_n (j := 2) C d_X11_quoteOut_33 rfl ?_
        refine z_iload_n (j := 3) C d_X11_quoteOut_34 rfl ?_
        refine z_i2l C d_X11_quoteOut_35 ?_
        refine z_iconst (v := 0) C d_X11_quoteOut_36 (by decide) ?_
        obtain ⟨q37, hF, hf⟩ := bd hf
        refine z_callV0 (rest := []) C [aR 78, aI (-1), aI p1, aI p2, aJ (p3.toInt64), aI 0] rfl (by decide) rfl rfl k_X10_drain tw_1078 ⟨by decide, by decide⟩ (Nat.le_of_ble_eq_true rfl) d_X11_quoteOut_37 (c_X10_drain C.inj hF) rfl ?_
        refine z_aload_n (j := 0) C d_X11_quoteOut_40 rfl ?_
        refine zg_X11_trade C rfl tw_466 d_X11_quoteOut_41 ?_
        refine zg_X10_left C rfl tw_250 d_X11_quoteOut_44 ?_
        refine z_lconst (v := 0) C d_X11_quoteOut_47 (by decide) ?_
        refine z_lle (tgt := 55) C d_X11_quoteOut_48 d_X11_quoteOut_49 (by decide) hf (fun c48 hf => ?_) (fun c48 hf => ?_)
        · refine z_iload (j := 4) C d_X11_quoteOut_55 rfl ?_
          by_cases c57_0 : p4 = 0
          · rw [if_pos c57_0] at hf
            refine z_tin (tgt := 84) C d_X11_quoteOut_57 (by rw [c57_0]; decide) (by rw [c57_0]; decide) (by rw [c57_0]; rfl) (by decide) ?_
            refine z_aload_n (j := 0) C d_X11_quoteOut_84 rfl ?_
            refine zg_X11_trade C rfl tw_466 d_X11_quoteOut_85 ?_
            refine zg_X10_paid C rfl tw_257 d_X11_quoteOut_88 ?_
            refine z_l2i C d_X11_quoteOut_91 ?_
            exact r_i C hr rfl d_X11_quoteOut_92 hf
          rw [if_neg c57_0] at hf
          have d57_0 := tn (n := 0) c57_0 (by decide)
          by_cases c57_1 : p4 = 1
          · rw [if_pos c57_1] at hf
            refine z_tin (tgt := 93) C d_X11_quoteOut_57 (by rw [c57_1]; decide) (by rw [c57_1]; decide) (by rw [c57_1]; rfl) (by decide) ?_
            refine z_aload_n (j := 0) C d_X11_quoteOut_93 rfl ?_
            refine zg_X11_trade C rfl tw_466 d_X11_quoteOut_94 ?_
            refine zg_X10_fees C rfl tw_259 d_X11_quoteOut_97 ?_
            refine z_l2i C d_X11_quoteOut_100 ?_
            exact r_i C hr rfl d_X11_quoteOut_101 hf
          rw [if_neg c57_1] at hf
          have d57_1 := tn (n := 1) c57_1 (by decide)
          by_cases c57_2 : p4 = 2
          · rw [if_pos c57_2] at hf
            refine z_tin (tgt := 102) C d_X11_quoteOut_57 (by rw [c57_2]; decide) (by rw [c57_2]; decide) (by rw [c57_2]; rfl) (by decide) ?_
            refine z_aload_n (j := 0) C d_X11_quoteOut_102 rfl ?_
            refine zg_X11_trade C rfl tw_466 d_X11_quoteOut_103 ?_
            refine zg_X10_zone C rfl tw_245 d_X11_quoteOut_106 ?_
            exact r_i C hr rfl d_X11_quoteOut_109 hf
          rw [if_neg c57_2] at hf
          have d57_2 := tn (n := 2) c57_2 (by decide)
          refine z_tout (tgt := 110) C d_X11_quoteOut_57 (by omega) (by decide) ?_
          refine z_aload_n (j := 0) C d_X11_quoteOut_110 rfl ?_
          refine zg_X11_trade C rfl tw_466 d_X11_quoteOut_111 ?_
          refine zg_X10_crossed C rfl tw_247 d_X11_quoteOut_114 ?_
          exact r_i C hr rfl d_X11_quoteOut_117 hf
        · refine z_bipush (v := (-2)) C d_X11_quoteOut_52 (by decide) ?_
          exact r_i C hr rfl d_X11_quoteOut_54 hf
      · exact z_sub [] rfl (t_X11_quoteOut_21 C hr  _ hf)
theorem d_X11_round_0 : decode cX11_round 0 = .ok (.aload_n 0, 1) := by decide +kernel
theorem d_X11_round_1 : decode cX11_round 1 = .ok (.iload_n 1, 1) := by decide +kernel
theorem d_X11_round_2 : decode cX11_round 2 = .ok (.iload_n 2, 1) := by decide +kernel
theorem d_X11_round_3 : decode cX11_round 3 = .ok (.iload_n 3, 1) := by decide +kernel
theorem d_X11_round_4 : decode cX11_round 4 = .ok (.invokevirtual 274, 3) := by decide +kernel
theorem d_X11_round_7 : decode cX11_round 7 = .ok (.ifCond .ne 5, 3) := by decide +kernel
theorem d_X11_round_10 : decode cX11_round 10 = .ok (.iconst (-1), 1) := by decide +kernel
theorem d_X11_round_11 : decode cX11_round 11 = .ok (.ireturn, 1) := by decide +kernel
theorem d_X11_round_12 : decode cX11_round 12 = .ok (.aload_n 0, 1) := by decide +kernel
theorem d_X11_round_13 : decode cX11_round 13 = .ok (.getfield 23, 3) := by decide +kernel
theorem d_X11_round_16 : decode cX11_round 16 = .ok (.aload_n 0, 1) := by decide +kernel
theorem d_X11_round_17 : decode cX11_round 17 = .ok (.getfield 19, 3) := by decide +kernel
theorem d_X11_round_20 : decode cX11_round 20 = .ok (.invokevirtual 87, 3) := by decide +kernel
theorem d_X11_round_23 : decode cX11_round 23 = .ok (.aload_n 0, 1) := by decide +kernel
theorem d_X11_round_24 : decode cX11_round 24 = .ok (.getfield 29, 3) := by decide +kernel
theorem d_X11_round_27 : decode cX11_round 27 = .ok (.aload_n 0, 1) := by decide +kernel
theorem d_X11_round_28 : decode cX11_round 28 = .ok (.getfield 23, 3) := by decide +kernel
theorem d_X11_round_31 : decode cX11_round 31 = .ok (.iconst (-1), 1) := by decide +kernel
theorem d_X11_round_32 : decode cX11_round 32 = .ok (.iload_n 1, 1) := by decide +kernel
theorem d_X11_round_33 : decode cX11_round 33 = .ok (.iload_n 2, 1) := by decide +kernel
theorem d_X11_round_34 : decode cX11_round 34 = .ok (.iload_n 3, 1) := by decide +kernel
theorem d_X11_round_35 : decode cX11_round 35 = .ok (.i2l, 1) := by decide +kernel
theorem d_X11_round_36 : decode cX11_round 36 = .ok (.iload_n 2, 1) := by decide +kernel
theorem d_X11_round_37 : decode cX11_round 37 = .ok (.invokestatic 285, 3) := by decide +kernel
theorem d_X11_round_40 : decode cX11_round 40 = .ok (.iconst 1, 1) := by decide +kernel
theorem d_X11_round_41 : decode cX11_round 41 = .ok (.invokevirtual 239, 3) := by decide +kernel
theorem d_X11_round_44 : decode cX11_round 44 = .ok (.aload_n 0, 1) := by decide +kernel
theorem d_X11_round_45 : decode cX11_round 45 = .ok (.getfield 29, 3) := by decide +kernel
theorem d_X11_round_48 : decode cX11_round 48 = .ok (.getfield 243, 3) := by decide +kernel
theorem d_X11_round_51 : decode cX11_round 51 = .ok (.lconst 1, 1) := by decide +kernel
theorem d_X11_round_52 : decode cX11_round 52 = .ok (.lcmp, 1) := by decide +kernel
theorem d_X11_round_53 : decode cX11_round 53 = .ok (.ifCond .ge 5, 3) := by decide +kernel
theorem d_X11_round_56 : decode cX11_round 56 = .ok (.iconst 0, 1) := by decide +kernel
theorem d_X11_round_57 : decode cX11_round 57 = .ok (.ireturn, 1) := by decide +kernel
theorem d_X11_round_58 : decode cX11_round 58 = .ok (.aload_n 0, 1) := by decide +kernel
theorem d_X11_round_59 : decode cX11_round 59 = .ok (.getfield 29, 3) := by decide +kernel
theorem d_X11_round_62 : decode cX11_round 62 = .ok (.aload_n 0, 1) := by decide +kernel
theorem d_X11_round_63 : decode cX11_round 63 = .ok (.getfield 23, 3) := by decide +kernel
theorem d_X11_round_66 : decode cX11_round 66 = .ok (.iconst (-1), 1) := by decide +kernel
theorem d_X11_round_67 : decode cX11_round 67 = .ok (.iload_n 1, 1) := by decide +kernel
theorem d_X11_round_68 : decode cX11_round 68 = .ok (.iconst 1, 1) := by decide +kernel
theorem d_X11_round_69 : decode cX11_round 69 = .ok (.iload_n 2, 1) := by decide +kernel
theorem d_X11_round_70 : decode cX11_round 70 = .ok (.isub, 1) := by decide +kernel
theorem d_X11_round_71 : decode cX11_round 71 = .ok (.aload_n 0, 1) := by decide +kernel
theorem d_X11_round_72 : decode cX11_round 72 = .ok (.getfield 29, 3) := by decide +kernel
theorem d_X11_round_75 : decode cX11_round 75 = .ok (.getfield 243, 3) := by decide +kernel
theorem d_X11_round_78 : decode cX11_round 78 = .ok (.iconst 1, 1) := by decide +kernel
theorem d_X11_round_79 : decode cX11_round 79 = .ok (.iload_n 2, 1) := by decide +kernel
theorem d_X11_round_80 : decode cX11_round 80 = .ok (.isub, 1) := by decide +kernel
theorem d_X11_round_81 : decode cX11_round 81 = .ok (.invokestatic 285, 3) := by decide +kernel
theorem d_X11_round_84 : decode cX11_round 84 = .ok (.iconst 1, 1) := by decide +kernel
theorem d_X11_round_85 : decode cX11_round 85 = .ok (.invokevirtual 239, 3) := by decide +kernel
theorem d_X11_round_88 : decode cX11_round 88 = .ok (.aload_n 0, 1) := by decide +kernel
theorem d_X11_round_89 : decode cX11_round 89 = .ok (.getfield 29, 3) := by decide +kernel
theorem d_X11_round_92 : decode cX11_round 92 = .ok (.getfield 243, 3) := by decide +kernel
theorem d_X11_round_95 : decode cX11_round 95 = .ok (.l2i, 1) := by decide +kernel
theorem d_X11_round_96 : decode cX11_round 96 = .ok (.ireturn, 1) := by decide +kernel
/-- TickPools.round(III)I -/
def f_X11_round (p1 : Int32) (p2 : Int32) (p3 : Int32) (S : Mem) : Option (Int32 × Mem) := ((f_X11_canAsk p1 p2 p3 S).bind fun q4 => (if q4.1 = 0 then (some ((-1), q4.2)) else ((f_X2_copyFrom 143 78 q4.2).bind fun q20 => ((f_X11_lastTick p2 q20.2).bind fun q37 => ((f_X10_pour 143 (-1) p1 p2 (p3.toInt64) q37.1 1 q37.2).bind fun q41 => (if 1 ≤ (gL q41.2 4 11) then ((f_X11_lastTick (1 - p2) q41.2).bind fun q81 => ((f_X10_pour 143 (-1) p1 (1 - p2) (gL q41.2 4 11) q81.1 1 q81.2).bind fun q85 => (some ((((gL q85.2 4 11) : Int64).toInt32), q85.2)))) else (some (0, q41.2))))))))
set_option maxRecDepth 20000 in
theorem c_X11_round {l : Launch} {Γ : GG} (hI : Inj Γ) {p1 : Int32} {p2 : Int32} {p3 : Int32} {S : Mem} {q : Int32 × Mem} (hf : f_X11_round p1 p2 p3 S = some q) : MM l Γ yX11_round cX11_round 4 (some .int) 5 148 [aR 1, aI p1, aI p2, aI p3] S (some (aI q.1)) q.2 := by
  refine met_of hI "TickPools" rfl (by decide +kernel) (Nat.le_of_ble_eq_true rfl) (fun X hX C hr => ?_)
  unfold f_X11_round at hf
  show ZZ X Γ 4 _ S 0 [(0, aR 1), (1, aI p1), (2, aI p2), (3, aI p3)] []
  refine z_aload_n (j := 0) C d_X11_round_0 rfl ?_
  refine z_iload_n (j := 1) C d_X11_round_1 rfl ?_
  refine z_iload_n (j := 2) C d_X11_round_2 rfl ?_
  refine z_iload_n (j := 3) C d_X11_round_3 rfl ?_
  obtain ⟨q4, hF, hf⟩ := bd hf
  refine z_callV1 (rest := []) C [aI p1, aI p2, aI p3] rfl (by decide) rfl rfl k_X11_canAsk tw_1096 ⟨by decide, by decide⟩ (Nat.le_of_ble_eq_true rfl) d_X11_round_4 (c_X11_canAsk C.inj hF) rfl ?_
  refine z_if_ne (tgt := 12) C d_X11_round_7 (by decide) hf (fun c7 hf => ?_) (fun c7 hf => ?_)
  · refine z_aload_n (j := 0) C d_X11_round_12 rfl ?_
    refine zg_X11_spare C rfl tw_462 d_X11_round_13 ?_
    refine z_aload_n (j := 0) C d_X11_round_16 rfl ?_
    refine zg_X11_live C rfl tw_461 d_X11_round_17 ?_
    obtain ⟨q20, hF, hf⟩ := bd hf
    refine z_callV0 (rest := []) C [aR 78] rfl (by decide) rfl rfl k_X2_copyFrom tw_659 ⟨by decide, by decide⟩ (Nat.le_of_ble_eq_true rfl) d_X11_round_20 (c_X2_copyFrom C.inj hF) rfl ?_
    refine z_aload_n (j := 0) C d_X11_round_23 rfl ?_
    refine zg_X11_trade C rfl tw_466 d_X11_round_24 ?_
    refine z_aload_n (j := 0) C d_X11_round_27 rfl ?_
    refine zg_X11_spare C rfl tw_462 d_X11_round_28 ?_
    refine z_iconst (v := (-1)) C d_X11_round_31 (by decide) ?_
    refine z_iload_n (j := 1) C d_X11_round_32 rfl ?_
    refine z_iload_n (j := 2) C d_X11_round_33 rfl ?_
    refine z_iload_n (j := 3) C d_X11_round_34 rfl ?_
    refine z_i2l C d_X11_round_35 ?_
    refine z_iload_n (j := 2) C d_X11_round_36 rfl ?_
    obtain ⟨q37, hF, hf⟩ := bd hf
    refine z_callS1 (rest := [aJ (p3.toInt64), aI p2, aI p1, aI (-1), aR 143, aR 4]) C [aI p2] k_X11_lastTick tw_1108 ⟨by decide, by decide⟩ (Nat.le_of_ble_eq_true rfl) d_X11_round_37 (c_X11_lastTick C.inj hF) rfl ?_
    refine z_iconst (v := 1) C d_X11_round_40 (by decide) ?_
    obtain ⟨q41, hF, hf⟩ := bd hf
    refine z_callV0 (rest := []) C [aR 143, aI (-1), aI p1, aI p2, aJ (p3.toInt64), aI q37.1, aI 1] rfl (by decide) rfl rfl k_X10_pour tw_1069 ⟨by decide, by decide⟩ (Nat.le_of_ble_eq_true rfl) d_X11_round_41 (c_X10_pour C.inj hF) rfl ?_
    refine z_aload_n (j := 0) C d_X11_round_44 rfl ?_
    refine zg_X11_trade C rfl tw_466 d_X11_round_45 ?_
    refine zg_X10_gave C rfl tw_254 d_X11_round_48 ?_
    refine z_lconst (v := 1) C d_X11_round_51 (by decide) ?_
    refine z_lge (tgt := 58) C d_X11_round_52 d_X11_round_53 (by decide) hf (fun c52 hf => ?_) (fun c52 hf => ?_)
    · refine z_aload_n (j := 0) C d_X11_round_58 rfl ?_
      refine zg_X11_trade C rfl tw_466 d_X11_round_59 ?_
      refine z_aload_n (j := 0) C d_X11_round_62 rfl ?_
      refine zg_X11_spare C rfl tw_462 d_X11_round_63 ?_
      refine z_iconst (v := (-1)) C d_X11_round_66 (by decide) ?_
      refine z_iload_n (j := 1) C d_X11_round_67 rfl ?_
      refine z_iconst (v := 1) C d_X11_round_68 (by decide) ?_
      refine z_iload_n (j := 2) C d_X11_round_69 rfl ?_
      refine z_isub C d_X11_round_70 ?_
      refine z_aload_n (j := 0) C d_X11_round_71 rfl ?_
      refine zg_X11_trade C rfl tw_466 d_X11_round_72 ?_
      refine zg_X10_gave C rfl tw_254 d_X11_round_75 ?_
      refine z_iconst (v := 1) C d_X11_round_78 (by decide) ?_
      refine z_iload_n (j := 2) C d_X11_round_79 rfl ?_
      refine z_isub C d_X11_round_80 ?_
      obtain ⟨q81, hF, hf⟩ := bd hf
      refine z_callS1 (rest := [aJ (gL q41.2 4 11), aI (1 - p2), aI p1, aI (-1), aR 143, aR 4]) C [aI (1 - p2)] k_X11_lastTick tw_1108 ⟨by decide, by decide⟩ (Nat.le_of_ble_eq_true rfl) d_X11_round_81 (c_X11_lastTick C.inj hF) rfl ?_
      refine z_iconst (v := 1) C d_X11_round_84 (by decide) ?_
      obtain ⟨q85, hF, hf⟩ := bd hf
      refine z_callV0 (rest := []) C [aR 143, aI (-1), aI p1, aI (1 - p2), aJ (gL q41.2 4 11), aI q81.1, aI 1] rfl (by decide) rfl rfl k_X10_pour tw_1069 ⟨by decide, by decide⟩ (Nat.le_of_ble_eq_true rfl) d_X11_round_85 (c_X10_pour C.inj hF) rfl ?_
      refine z_aload_n (j := 0) C d_X11_round_88 rfl ?_
      refine zg_X11_trade C rfl tw_466 d_X11_round_89 ?_
      refine zg_X10_gave C rfl tw_254 d_X11_round_92 ?_
      refine z_l2i C d_X11_round_95 ?_
      exact r_i C hr rfl d_X11_round_96 hf
    · refine z_iconst (v := 0) C d_X11_round_56 (by decide) ?_
      exact r_i C hr rfl d_X11_round_57 hf
  · refine z_iconst (v := (-1)) C d_X11_round_10 (by decide) ?_
    exact r_i C hr rfl d_X11_round_11 hf
theorem d_X11_comesTo_0 : decode cX11_comesTo 0 = .ok (.aload_n 0, 1) := by decide +kernel
theorem d_X11_comesTo_1 : decode cX11_comesTo 1 = .ok (.getfield 29, 3) := by decide +kernel
theorem d_X11_comesTo_4 : decode cX11_comesTo 4 = .ok (.aload_n 0, 1) := by decide +kernel
theorem d_X11_comesTo_5 : decode cX11_comesTo 5 = .ok (.getfield 19, 3) := by decide +kernel
theorem d_X11_comesTo_8 : decode cX11_comesTo 8 = .ok (.iconst (-1), 1) := by decide +kernel
theorem d_X11_comesTo_9 : decode cX11_comesTo 9 = .ok (.iload_n 1, 1) := by decide +kernel
theorem d_X11_comesTo_10 : decode cX11_comesTo 10 = .ok (.iload_n 2, 1) := by decide +kernel
theorem d_X11_comesTo_11 : decode cX11_comesTo 11 = .ok (.iload_n 3, 1) := by decide +kernel
theorem d_X11_comesTo_12 : decode cX11_comesTo 12 = .ok (.i2l, 1) := by decide +kernel
theorem d_X11_comesTo_13 : decode cX11_comesTo 13 = .ok (.iload_n 2, 1) := by decide +kernel
theorem d_X11_comesTo_14 : decode cX11_comesTo 14 = .ok (.invokestatic 285, 3) := by decide +kernel
theorem d_X11_comesTo_17 : decode cX11_comesTo 17 = .ok (.iconst 0, 1) := by decide +kernel
theorem d_X11_comesTo_18 : decode cX11_comesTo 18 = .ok (.invokevirtual 239, 3) := by decide +kernel
theorem d_X11_comesTo_21 : decode cX11_comesTo 21 = .ok (.iload_n 2, 1) := by decide +kernel
theorem d_X11_comesTo_22 : decode cX11_comesTo 22 = .ok (.ifCond .ne 23, 3) := by decide +kernel
theorem d_X11_comesTo_25 : decode cX11_comesTo 25 = .ok (.aload_n 0, 1) := by decide +kernel
theorem d_X11_comesTo_26 : decode cX11_comesTo 26 = .ok (.getfield 29, 3) := by decide +kernel
theorem d_X11_comesTo_29 : decode cX11_comesTo 29 = .ok (.getfield 281, 3) := by decide +kernel
theorem d_X11_comesTo_32 : decode cX11_comesTo 32 = .ok (.iload 4, 2) := by decide +kernel
theorem d_X11_comesTo_34 : decode cX11_comesTo 34 = .ok (.if_icmp .gt 7, 3) := by decide +kernel
theorem d_X11_comesTo_37 : decode cX11_comesTo 37 = .ok (.iconst 1, 1) := by decide +kernel
theorem d_X11_comesTo_38 : decode cX11_comesTo 38 = .ok (.goto 24, 3) := by decide +kernel
theorem d_X11_comesTo_41 : decode cX11_comesTo 41 = .ok (.iconst 0, 1) := by decide +kernel
theorem d_X11_comesTo_42 : decode cX11_comesTo 42 = .ok (.goto 20, 3) := by decide +kernel
theorem d_X11_comesTo_45 : decode cX11_comesTo 45 = .ok (.aload_n 0, 1) := by decide +kernel
theorem d_X11_comesTo_46 : decode cX11_comesTo 46 = .ok (.getfield 29, 3) := by decide +kernel
theorem d_X11_comesTo_49 : decode cX11_comesTo 49 = .ok (.getfield 281, 3) := by decide +kernel
theorem d_X11_comesTo_52 : decode cX11_comesTo 52 = .ok (.iload 4, 2) := by decide +kernel
theorem d_X11_comesTo_54 : decode cX11_comesTo 54 = .ok (.if_icmp .lt 7, 3) := by decide +kernel
theorem d_X11_comesTo_57 : decode cX11_comesTo 57 = .ok (.iconst 1, 1) := by decide +kernel
theorem d_X11_comesTo_58 : decode cX11_comesTo 58 = .ok (.goto 4, 3) := by decide +kernel
theorem d_X11_comesTo_61 : decode cX11_comesTo 61 = .ok (.iconst 0, 1) := by decide +kernel
theorem d_X11_comesTo_62 : decode cX11_comesTo 62 = .ok (.ireturn, 1) := by decide +kernel
def f_X11_comesTo_62 (s0 : Int32) (S : Mem) : Option (Int32 × Mem) := (if isB s0 = true then (some (s0, S)) else none)
set_option maxRecDepth 20000 in
theorem t_X11_comesTo_62 {X : MC} {Γ : GG} (C : CX X Γ cX11_comesTo 5 "TickPools" 5 148) (hr : X.2.2.2.2.2.2.2.2.1.sig.returnType = some .boolean) {q : Int32 × Mem} (s0 : Int32) (S : Mem) (hf : f_X11_comesTo_62 s0 S = some q) : ZZ X Γ 5 (QQ X Γ (some (aI q.1)) q.2) S 62 [] [aI s0] := by
  unfold f_X11_comesTo_62 at hf
  obtain ⟨hb62_0, hf⟩ := gd hf
  exact r_i C hr (isB_nar hb62_0).1 d_X11_comesTo_62 hf
/-- TickPools.comesTo(IIII)Z -/
def f_X11_comesTo (p1 : Int32) (p2 : Int32) (p3 : Int32) (p4 : Int32) (S : Mem) : Option (Int32 × Mem) := ((f_X11_lastTick p2 S).bind fun q14 => ((f_X10_pour 78 (-1) p1 p2 (p3.toInt64) q14.1 0 q14.2).bind fun q18 => (if p2 = 0 then (if p4 < (gI q18.2 4 8) then (f_X11_comesTo_62  0 q18.2) else (f_X11_comesTo_62  1 q18.2)) else (if (gI q18.2 4 8) < p4 then (f_X11_comesTo_62  0 q18.2) else (f_X11_comesTo_62  1 q18.2)))))
set_option maxRecDepth 20000 in
theorem c_X11_comesTo {l : Launch} {Γ : GG} (hI : Inj Γ) {p1 : Int32} {p2 : Int32} {p3 : Int32} {p4 : Int32} {S : Mem} {q : Int32 × Mem} (hf : f_X11_comesTo p1 p2 p3 p4 S = some q) : MM l Γ yX11_comesTo cX11_comesTo 5 (some .boolean) 5 148 [aR 1, aI p1, aI p2, aI p3, aI p4] S (some (aI q.1)) q.2 := by
  refine met_of hI "TickPools" rfl (by decide +kernel) (Nat.le_of_ble_eq_true rfl) (fun X hX C hr => ?_)
  unfold f_X11_comesTo at hf
  show ZZ X Γ 5 _ S 0 [(0, aR 1), (1, aI p1), (2, aI p2), (3, aI p3), (4, aI p4)] []
  refine z_aload_n (j := 0) C d_X11_comesTo_0 rfl ?_
  refine zg_X11_trade C rfl tw_466 d_X11_comesTo_1 ?_
  refine z_aload_n (j := 0) C d_X11_comesTo_4 rfl ?_
  refine zg_X11_live C rfl tw_461 d_X11_comesTo_5 ?_
  refine z_iconst (v := (-1)) C d_X11_comesTo_8 (by decide) ?_
  refine z_iload_n (j := 1) C d_X11_comesTo_9 rfl ?_
  refine z_iload_n (j := 2) C d_X11_comesTo_10 rfl ?_
  refine z_iload_n (j := 3) C d_X11_comesTo_11 rfl ?_
  refine z_i2l C d_X11_comesTo_12 ?_
  refine z_iload_n (j := 2) C d_X11_comesTo_13 rfl ?_
  obtain ⟨q14, hF, hf⟩ := bd hf
  refine z_callS1 (rest := [aJ (p3.toInt64), aI p2, aI p1, aI (-1), aR 78, aR 4]) C [aI p2] k_X11_lastTick tw_1108 ⟨by decide, by decide⟩ (Nat.le_of_ble_eq_true rfl) d_X11_comesTo_14 (c_X11_lastTick C.inj hF) rfl ?_
  refine z_iconst (v := 0) C d_X11_comesTo_17 (by decide) ?_
  obtain ⟨q18, hF, hf⟩ := bd hf
  refine z_callV0 (rest := []) C [aR 78, aI (-1), aI p1, aI p2, aJ (p3.toInt64), aI q14.1, aI 0] rfl (by decide) rfl rfl k_X10_pour tw_1069 ⟨by decide, by decide⟩ (Nat.le_of_ble_eq_true rfl) d_X11_comesTo_18 (c_X10_pour C.inj hF) rfl ?_
  refine z_iload_n (j := 2) C d_X11_comesTo_21 rfl ?_
  refine z_if_ne (tgt := 45) C d_X11_comesTo_22 (by decide) hf (fun c22 hf => ?_) (fun c22 hf => ?_)
  · refine z_aload_n (j := 0) C d_X11_comesTo_45 rfl ?_
    refine zg_X11_trade C rfl tw_466 d_X11_comesTo_46 ?_
    refine zg_X10_zone C rfl tw_245 d_X11_comesTo_49 ?_
    refine z_iload (j := 4) C d_X11_comesTo_52 rfl ?_
    refine z_icmp_lt (tgt := 61) C d_X11_comesTo_54 (by decide) hf (fun c54 hf => ?_) (fun c54 hf => ?_)
    · refine z_iconst (v := 0) C d_X11_comesTo_61 (by decide) ?_
      exact z_sub [] rfl (t_X11_comesTo_62 C hr  _ _ hf)
    · refine z_iconst (v := 1) C d_X11_comesTo_57 (by decide) ?_
      refine z_goto (tgt := 62) C d_X11_comesTo_58 (by decide) ?_
      exact z_sub [] rfl (t_X11_comesTo_62 C hr  _ _ hf)
  · refine z_aload_n (j := 0) C d_X11_comesTo_25 rfl ?_
    refine zg_X11_trade C rfl tw_466 d_X11_comesTo_26 ?_
    refine zg_X10_zone C rfl tw_245 d_X11_comesTo_29 ?_
    refine z_iload (j := 4) C d_X11_comesTo_32 rfl ?_
    refine z_icmp_gt (tgt := 41) C d_X11_comesTo_34 (by decide) hf (fun c34 hf => ?_) (fun c34 hf => ?_)
    · refine z_iconst (v := 0) C d_X11_comesTo_41 (by decide) ?_
      refine z_goto (tgt := 62) C d_X11_comesTo_42 (by decide) ?_
      exact z_sub [] rfl (t_X11_comesTo_62 C hr  _ _ hf)
    · refine z_iconst (v := 1) C d_X11_comesTo_37 (by decide) ?_
      refine z_goto (tgt := 62) C d_X11_comesTo_38 (by decide) ?_
      exact z_sub [] rfl (t_X11_comesTo_62 C hr  _ _ hf)
theorem d_X11_least_0 : decode cX11_least 0 = .ok (.aload_n 0, 1) := by decide +kernel
theorem d_X11_least_1 : decode cX11_least 1 = .ok (.getfield 19, 3) := by decide +kernel
theorem d_X11_least_4 : decode cX11_least 4 = .ok (.iload_n 1, 1) := by decide +kernel
theorem d_X11_least_5 : decode cX11_least 5 = .ok (.invokevirtual 132, 3) := by decide +kernel
theorem d_X11_least_8 : decode cX11_least 8 = .ok (.ifnull 17, 3) := by decide +kernel
theorem d_X11_least_11 : decode cX11_least 11 = .ok (.iload_n 2, 1) := by decide +kernel
theorem d_X11_least_12 : decode cX11_least 12 = .ok (.invokestatic 233, 3) := by decide +kernel
theorem d_X11_least_15 : decode cX11_least 15 = .ok (.ifCond .eq 10, 3) := by decide +kernel
theorem d_X11_least_18 : decode cX11_least 18 = .ok (.iload_n 3, 1) := by decide +kernel
theorem d_X11_least_19 : decode cX11_least 19 = .ok (.invokestatic 173, 3) := by decide +kernel
theorem d_X11_least_22 : decode cX11_least 22 = .ok (.ifCond .ne 5, 3) := by decide +kernel
theorem d_X11_least_25 : decode cX11_least 25 = .ok (.iconst (-1), 1) := by decide +kernel
theorem d_X11_least_26 : decode cX11_least 26 = .ok (.ireturn, 1) := by decide +kernel
theorem d_X11_least_27 : decode cX11_least 27 = .ok (.aload_n 0, 1) := by decide +kernel
theorem d_X11_least_28 : decode cX11_least 28 = .ok (.iload_n 1, 1) := by decide +kernel
theorem d_X11_least_29 : decode cX11_least 29 = .ok (.iload_n 2, 1) := by decide +kernel
theorem d_X11_least_30 : decode cX11_least 30 = .ok (.ldc_w 266, 3) := by decide +kernel
theorem d_X11_least_33 : decode cX11_least 33 = .ok (.iload_n 3, 1) := by decide +kernel
theorem d_X11_least_34 : decode cX11_least 34 = .ok (.invokevirtual 288, 3) := by decide +kernel
theorem d_X11_least_37 : decode cX11_least 37 = .ok (.ifCond .ne 6, 3) := by decide +kernel
theorem d_X11_least_40 : decode cX11_least 40 = .ok (.bipush (-2), 2) := by decide +kernel
theorem d_X11_least_42 : decode cX11_least 42 = .ok (.ireturn, 1) := by decide +kernel
theorem d_X11_least_43 : decode cX11_least 43 = .ok (.iconst 1, 1) := by decide +kernel
theorem d_X11_least_44 : decode cX11_least 44 = .ok (.istore 4, 2) := by decide +kernel
theorem d_X11_least_46 : decode cX11_least 46 = .ok (.ldc_w 266, 3) := by decide +kernel
theorem d_X11_least_49 : decode cX11_least 49 = .ok (.istore 5, 2) := by decide +kernel
theorem d_X11_least_51 : decode cX11_least 51 = .ok (.iconst 0, 1) := by decide +kernel
theorem d_X11_least_52 : decode cX11_least 52 = .ok (.istore 6, 2) := by decide +kernel
theorem d_X11_least_54 : decode cX11_least 54 = .ok (.iload 6, 2) := by decide +kernel
theorem d_X11_least_56 : decode cX11_least 56 = .ok (.bipush 64, 2) := by decide +kernel
theorem d_X11_least_58 : decode cX11_least 58 = .ok (.if_icmp .ge 50, 3) := by decide +kernel
theorem d_X11_least_61 : decode cX11_least 61 = .ok (.iload 4, 2) := by decide +kernel
theorem d_X11_least_63 : decode cX11_least 63 = .ok (.iload 5, 2) := by decide +kernel
theorem d_X11_least_65 : decode cX11_least 65 = .ok (.if_icmp .ge 43, 3) := by decide +kernel
theorem d_X11_least_68 : decode cX11_least 68 = .ok (.iload 4, 2) := by decide +kernel
theorem d_X11_least_70 : decode cX11_least 70 = .ok (.iload 5, 2) := by decide +kernel
theorem d_X11_least_72 : decode cX11_least 72 = .ok (.iadd, 1) := by decide +kernel
theorem d_X11_least_73 : decode cX11_least 73 = .ok (.iconst 2, 1) := by decide +kernel
theorem d_X11_least_74 : decode cX11_least 74 = .ok (.idiv, 1) := by decide +kernel
theorem d_X11_least_75 : decode cX11_least 75 = .ok (.istore 7, 2) := by decide +kernel
theorem d_X11_least_77 : decode cX11_least 77 = .ok (.aload_n 0, 1) := by decide +kernel
theorem d_X11_least_78 : decode cX11_least 78 = .ok (.iload_n 1, 1) := by decide +kernel
theorem d_X11_least_79 : decode cX11_least 79 = .ok (.iload_n 2, 1) := by decide +kernel
theorem d_X11_least_80 : decode cX11_least 80 = .ok (.iload 7, 2) := by decide +kernel
theorem d_X11_least_82 : decode cX11_least 82 = .ok (.iload_n 3, 1) := by decide +kernel
theorem d_X11_least_83 : decode cX11_least 83 = .ok (.invokevirtual 288, 3) := by decide +kernel
theorem d_X11_least_86 : decode cX11_least 86 = .ok (.ifCond .eq 10, 3) := by decide +kernel
theorem d_X11_least_89 : decode cX11_least 89 = .ok (.iload 7, 2) := by decide +kernel
theorem d_X11_least_91 : decode cX11_least 91 = .ok (.istore 5, 2) := by decide +kernel
theorem d_X11_least_93 : decode cX11_least 93 = .ok (.goto 9, 3) := by decide +kernel
theorem d_X11_least_96 : decode cX11_least 96 = .ok (.iload 7, 2) := by decide +kernel
theorem d_X11_least_98 : decode cX11_least 98 = .ok (.iconst 1, 1) := by decide +kernel
theorem d_X11_least_99 : decode cX11_least 99 = .ok (.iadd, 1) := by decide +kernel
theorem d_X11_least_100 : decode cX11_least 100 = .ok (.istore 4, 2) := by decide +kernel
theorem d_X11_least_102 : decode cX11_least 102 = .ok (.iinc 6 1, 3) := by decide +kernel
theorem d_X11_least_105 : decode cX11_least 105 = .ok (.goto (-51), 3) := by decide +kernel
theorem d_X11_least_108 : decode cX11_least 108 = .ok (.iload 4, 2) := by decide +kernel
theorem d_X11_least_110 : decode cX11_least 110 = .ok (.ireturn, 1) := by decide +kernel
def f_X11_least_25 (S : Mem) : Option (Int32 × Mem) := (some ((-1), S))
set_option maxRecDepth 20000 in
theorem t_X11_least_25 {X : MC} {Γ : GG} (C : CX X Γ cX11_least 8 "TickPools" 6 172) (hr : X.2.2.2.2.2.2.2.2.1.sig.returnType = some .int) {q : Int32 × Mem} (S : Mem) (hf : f_X11_least_25 S = some q) : ZZ X Γ 8 (QQ X Γ (some (aI q.1)) q.2) S 25 [] [] := by
  unfold f_X11_least_25 at hf
  refine z_iconst (v := (-1)) C d_X11_least_25 (by decide) ?_
  exact r_i C hr rfl d_X11_least_26 hf
def f_X11_least_102 (k54 : Int32 → Int32 → Int32 → Int32 → Int32 → Int32 → Mem → Option (Int32 × Mem)) (v1 : Int32) (v2 : Int32) (v3 : Int32) (v4 : Int32) (v5 : Int32) (v6 : Int32) (S : Mem) : Option (Int32 × Mem) := (k54 v1 v2 v3 v4 v5 (v6 + 1) S)
set_option maxRecDepth 20000 in
theorem t_X11_least_102 {X : MC} {Γ : GG} (C : CX X Γ cX11_least 8 "TickPools" 6 172) (hr : X.2.2.2.2.2.2.2.2.1.sig.returnType = some .int) {k54 : Int32 → Int32 → Int32 → Int32 → Int32 → Int32 → Mem → Option (Int32 × Mem)} {q : Int32 × Mem} (hk54 : ∀ (v1 : Int32) (v2 : Int32) (v3 : Int32) (v4 : Int32) (v5 : Int32) (v6 : Int32) (S : Mem), k54 v1 v2 v3 v4 v5 v6 S = some q → ZZ X Γ 8 (QQ X Γ (some (aI q.1)) q.2) S 54 [(0, aR 1), (1, aI v1), (2, aI v2), (3, aI v3), (4, aI v4), (5, aI v5), (6, aI v6)] []) (v1 : Int32) (v2 : Int32) (v3 : Int32) (v4 : Int32) (v5 : Int32) (v6 : Int32) (S : Mem) (hf : f_X11_least_102 k54 v1 v2 v3 v4 v5 v6 S = some q) : ZZ X Γ 8 (QQ X Γ (some (aI q.1)) q.2) S 102 [(0, aR 1), (1, aI v1), (2, aI v2), (3, aI v3), (4, aI v4), (5, aI v5), (6, aI v6)] [] := by
  unfold f_X11_least_102 at hf
  refine z_iinc (j := 6) (v := (v6 + 1)) (lv' := [(6, aI (v6 + 1)), (0, aR 1), (1, aI v1), (2, aI v2), (3, aI v3), (4, aI v4), (5, aI v5)]) C d_X11_least_102 rfl rfl (by decide) rfl ?_
  refine z_goto (tgt := 54) C d_X11_least_105 (by decide) ?_
  exact z_sub [1, 2, 3, 4, 5, 6, 0] rfl (hk54 _ _ _ _ _ _ _ hf)
def f_X11_least_77 (k54 : Int32 → Int32 → Int32 → Int32 → Int32 → Int32 → Mem → Option (Int32 × Mem)) (v1 : Int32) (v2 : Int32) (v3 : Int32) (v4 : Int32) (v5 : Int32) (v6 : Int32) (v7 : Int32) (S : Mem) : Option (Int32 × Mem) := ((f_X11_comesTo v1 v2 v7 v3 S).bind fun q83 => (if q83.1 = 0 then (f_X11_least_102 k54 v1 v2 v3 (v7 + 1) v5 v6 q83.2) else (f_X11_least_102 k54 v1 v2 v3 v4 v7 v6 q83.2)))
set_option maxRecDepth 20000 in
theorem t_X11_least_77 {X : MC} {Γ : GG} (C : CX X Γ cX11_least 8 "TickPools" 6 172) (hr : X.2.2.2.2.2.2.2.2.1.sig.returnType = some .int) {k54 : Int32 → Int32 → Int32 → Int32 → Int32 → Int32 → Mem → Option (Int32 × Mem)} {q : Int32 × Mem} (hk54 : ∀ (v1 : Int32) (v2 : Int32) (v3 : Int32) (v4 : Int32) (v5 : Int32) (v6 : Int32) (S : Mem), k54 v1 v2 v3 v4 v5 v6 S = some q → ZZ X Γ 8 (QQ X Γ (some (aI q.1)) q.2) S 54 [(0, aR 1), (1, aI v1), (2, aI v2), (3, aI v3), (4, aI v4), (5, aI v5), (6, aI v6)] []) (v1 : Int32) (v2 : Int32) (v3 : Int32) (v4 : Int32) (v5 : Int32) (v6 : Int32) (v7 : Int32) (S : Mem) (hf : f_X11_least_77 k54 v1 v2 v3 v4 v5 v6 v7 S = some q) : ZZ X Γ 8 (QQ X Γ (some (aI q.1)) q.2) S 77 [(0, aR 1), (1, aI v1), (2, aI v2), (3, aI v3), (4, aI v4), (5, aI v5), (6, aI v6), (7, aI v7)] [] := by
  unfold f_X11_least_77 at hf
  refine z_aload_n (j := 0) C d_X11_least_77 rfl ?_
  refine z_iload_n (j := 1) C d_X11_least_78 rfl ?_
  refine z_iload_n (j := 2) C d_X11_least_79 rfl ?_
  refine z_iload (j := 7) C d_X11_least_80 rfl ?_
  refine z_iload_n (j := 3) C d_X11_least_82 rfl ?_
  obtain ⟨q83, hF, hf⟩ := bd hf
  refine z_callV1 (rest := []) C [aI v1, aI v2, aI v7, aI v3] rfl (by decide) rfl rfl k_X11_comesTo tw_1113 ⟨by decide, by decide⟩ (Nat.le_of_ble_eq_true rfl) d_X11_least_83 (c_X11_comesTo C.inj hF) rfl ?_
  refine z_if_eq (tgt := 96) C d_X11_least_86 (by decide) hf (fun c86 hf => ?_) (fun c86 hf => ?_)
  · refine z_iload (j := 7) C d_X11_least_96 rfl ?_
    refine z_iconst (v := 1) C d_X11_least_98 (by decide) ?_
    refine z_iadd C d_X11_least_99 ?_
    refine z_istore (lv' := [(4, aI (v7 + 1)), (0, aR 1), (1, aI v1), (2, aI v2), (3, aI v3), (5, aI v5), (6, aI v6), (7, aI v7)]) C d_X11_least_100 (by decide) rfl ?_
    exact z_sub [1, 2, 3, 4, 0, 5, 6] rfl (t_X11_least_102 C hr hk54 _ _ _ _ _ _ _ hf)
  · refine z_iload (j := 7) C d_X11_least_89 rfl ?_
    refine z_istore (lv' := [(5, aI v7), (0, aR 1), (1, aI v1), (2, aI v2), (3, aI v3), (4, aI v4), (6, aI v6), (7, aI v7)]) C d_X11_least_91 (by decide) rfl ?_
    refine z_goto (tgt := 102) C d_X11_least_93 (by decide) ?_
    exact z_sub [1, 2, 3, 4, 5, 0, 6] rfl (t_X11_least_102 C hr hk54 _ _ _ _ _ _ _ hf)
def f_X11_least_108 (v4 : Int32) (S : Mem) : Option (Int32 × Mem) := (some (v4, S))
set_option maxRecDepth 20000 in
theorem t_X11_least_108 {X : MC} {Γ : GG} (C : CX X Γ cX11_least 8 "TickPools" 6 172) (hr : X.2.2.2.2.2.2.2.2.1.sig.returnType = some .int) {q : Int32 × Mem} (v4 : Int32) (S : Mem) (hf : f_X11_least_108 v4 S = some q) : ZZ X Γ 8 (QQ X Γ (some (aI q.1)) q.2) S 108 [(4, aI v4)] [] := by
  unfold f_X11_least_108 at hf
  refine z_iload (j := 0) C d_X11_least_108 rfl ?_
  exact r_i C hr rfl d_X11_least_110 hf
def f_X11_least_54B (k54 : Int32 → Int32 → Int32 → Int32 → Int32 → Int32 → Mem → Option (Int32 × Mem)) (v1 : Int32) (v2 : Int32) (v3 : Int32) (v4 : Int32) (v5 : Int32) (v6 : Int32) (S : Mem) : Option (Int32 × Mem) := (if 64 ≤ v6 then (f_X11_least_108  v4 S) else (if v5 ≤ v4 then (f_X11_least_108  v4 S) else (f_X11_least_77 k54 v1 v2 v3 v4 v5 v6 ((v4 + v5) / 2) S)))
set_option maxRecDepth 20000 in
theorem t_X11_least_54B {X : MC} {Γ : GG} (C : CX X Γ cX11_least 8 "TickPools" 6 172) (hr : X.2.2.2.2.2.2.2.2.1.sig.returnType = some .int) {k54 : Int32 → Int32 → Int32 → Int32 → Int32 → Int32 → Mem → Option (Int32 × Mem)} {q : Int32 × Mem} (hk54 : ∀ (v1 : Int32) (v2 : Int32) (v3 : Int32) (v4 : Int32) (v5 : Int32) (v6 : Int32) (S : Mem), k54 v1 v2 v3 v4 v5 v6 S = some q → ZZ X Γ 8 (QQ X Γ (some (aI q.1)) q.2) S 54 [(0, aR 1), (1, aI v1), (2, aI v2), (3, aI v3), (4, aI v4), (5, aI v5), (6, aI v6)] []) (v1 : Int32) (v2 : Int32) (v3 : Int32) (v4 : Int32) (v5 : Int32) (v6 : Int32) (S : Mem) (hf : f_X11_least_54B k54 v1 v2 v3 v4 v5 v6 S = some q) : ZZ X Γ 8 (QQ X Γ (some (aI q.1)) q.2) S 54 [(0, aR 1), (1, aI v1), (2, aI v2), (3, aI v3), (4, aI v4), (5, aI v5), (6, aI v6)] [] := by
  unfold f_X11_least_54B at hf
  refine z_iload (j := 6) C d_X11_least_54 rfl ?_
  refine z_bipush (v := 64) C d_X11_least_56 (by decide) ?_
  refine z_icmp_ge (tgt := 108) C d_X11_least_58 (by decide) hf (fun c58 hf => ?_) (fun c58 hf => ?_)
  · exact z_sub [4] rfl (t_X11_least_108 C hr  _ _ hf)
  · refine z_iload (j := 4) C d_X11_least_61 rfl ?_
    refine z_iload (j := 5) C d_X11_least_63 rfl ?_
    refine z_icmp_ge (tgt := 108) C d_X11_least_65 (by decide) hf (fun c65 hf => ?_) (fun c65 hf => ?_)
    · exact z_sub [4] rfl (t_X11_least_108 C hr  _ _ hf)
    · refine z_iload (j := 4) C d_X11_least_68 rfl ?_
      refine z_iload (j := 5) C d_X11_least_70 rfl ?_
      refine z_iadd C d_X11_least_72 ?_
      refine z_iconst (v := 2) C d_X11_least_73 (by decide) ?_
      refine z_idiv C d_X11_least_74 (by decide) ?_
      refine z_istore (lv' := [(7, aI ((v4 + v5) / 2)), (0, aR 1), (1, aI v1), (2, aI v2), (3, aI v3), (4, aI v4), (5, aI v5), (6, aI v6)]) C d_X11_least_75 (by decide) rfl ?_
      exact z_sub [1, 2, 3, 4, 5, 6, 7, 0] rfl (t_X11_least_77 C hr hk54 _ _ _ _ _ _ _ _ hf)
def f_X11_least_54 : Nat → Int32 → Int32 → Int32 → Int32 → Int32 → Int32 → Mem → Option (Int32 × Mem)
  | 0 => fun _ _ _ _ _ _ _ => none
  | n + 1 => f_X11_least_54B (f_X11_least_54 n)
theorem t_X11_least_54 {X : MC} {Γ : GG} (C : CX X Γ cX11_least 8 "TickPools" 6 172) (hr : X.2.2.2.2.2.2.2.2.1.sig.returnType = some .int) {q : Int32 × Mem} : ∀ (n : Nat) (v1 : Int32) (v2 : Int32) (v3 : Int32) (v4 : Int32) (v5 : Int32) (v6 : Int32) (S : Mem) (hf : f_X11_least_54 n v1 v2 v3 v4 v5 v6 S = some q), ZZ X Γ 8 (QQ X Γ (some (aI q.1)) q.2) S 54 [(0, aR 1), (1, aI v1), (2, aI v2), (3, aI v3), (4, aI v4), (5, aI v5), (6, aI v6)] []
  | 0, _, _, _, _, _, _, _, hf => nomatch (show (none : Option (Int32 × Mem)) = some q from hf)
  | n + 1, v1, v2, v3, v4, v5, v6, S, hf => t_X11_least_54B C hr (t_X11_least_54 C hr n) v1 v2 v3 v4 v5 v6 S hf
/-- TickPools.least(III)I -/
def f_X11_least (p1 : Int32) (p2 : Int32) (p3 : Int32) (S : Mem) : Option (Int32 × Mem) := ((f_X2_poolAt 78 p1 S).bind fun q5 => (if q5.1 = 0 then (f_X11_least_25  q5.2) else ((f_X11_isSide p2 q5.2).bind fun q12 => (if q12.1 = 0 then (f_X11_least_25  q12.2) else ((f_X11_isZone p3 q12.2).bind fun q19 => (if q19.1 = 0 then (f_X11_least_25  q19.2) else ((f_X11_comesTo p1 p2 9999999 p3 q19.2).bind fun q34 => (if q34.1 = 0 then (some ((-2), q34.2)) else (f_X11_least_54  100000 p1 p2 p3 1 9999999 0 q34.2)))))))))
set_option maxRecDepth 20000 in
theorem c_X11_least {l : Launch} {Γ : GG} (hI : Inj Γ) {p1 : Int32} {p2 : Int32} {p3 : Int32} {S : Mem} {q : Int32 × Mem} (hf : f_X11_least p1 p2 p3 S = some q) : MM l Γ yX11_least cX11_least 8 (some .int) 6 172 [aR 1, aI p1, aI p2, aI p3] S (some (aI q.1)) q.2 := by
  refine met_of hI "TickPools" rfl (by decide +kernel) (Nat.le_of_ble_eq_true rfl) (fun X hX C hr => ?_)
  unfold f_X11_least at hf
  show ZZ X Γ 8 _ S 0 [(0, aR 1), (1, aI p1), (2, aI p2), (3, aI p3)] []
  refine z_aload_n (j := 0) C d_X11_least_0 rfl ?_
  refine zg_X11_live C rfl tw_461 d_X11_least_1 ?_
  refine z_iload_n (j := 1) C d_X11_least_4 rfl ?_
  obtain ⟨q5, hF, hf⟩ := bd hf
  refine z_callV1 (rest := []) C [aI p1] rfl (by decide) rfl rfl k_X2_poolAt tw_1021 ⟨by decide, by decide⟩ (Nat.le_of_ble_eq_true rfl) d_X11_least_5 (c_X2_poolAt C.inj hF) rfl ?_
  refine z_ifnull (tgt := 25) C d_X11_least_8 (by decide) hf (fun c8 hf => ?_) (fun c8 hf => ?_)
  · exact z_sub [] rfl (t_X11_least_25 C hr  _ hf)
  · refine z_iload_n (j := 2) C d_X11_least_11 rfl ?_
    obtain ⟨q12, hF, hf⟩ := bd hf
    refine z_callS1 (rest := []) C [aI p2] k_X11_isSide tw_1067 ⟨by decide, by decide⟩ (Nat.le_of_ble_eq_true rfl) d_X11_least_12 (c_X11_isSide C.inj hF) rfl ?_
    refine z_if_eq (tgt := 25) C d_X11_least_15 (by decide) hf (fun c15 hf => ?_) (fun c15 hf => ?_)
    · exact z_sub [] rfl (t_X11_least_25 C hr  _ hf)
    · refine z_iload_n (j := 3) C d_X11_least_18 rfl ?_
      obtain ⟨q19, hF, hf⟩ := bd hf
      refine z_callS1 (rest := []) C [aI p3] k_X11_isZone tw_1032 ⟨by decide, by decide⟩ (Nat.le_of_ble_eq_true rfl) d_X11_least_19 (c_X11_isZone C.inj hF) rfl ?_
      refine z_if_ne (tgt := 27) C d_X11_least_22 (by decide) hf (fun c22 hf => ?_) (fun c22 hf => ?_)
      · refine z_aload_n (j := 0) C d_X11_least_27 rfl ?_
        refine z_iload_n (j := 1) C d_X11_least_28 rfl ?_
        refine z_iload_n (j := 2) C d_X11_least_29 rfl ?_
        refine z_ldcw (v := 9999999) C tw_1077 d_X11_least_30 ?_
        refine z_iload_n (j := 3) C d_X11_least_33 rfl ?_
        obtain ⟨q34, hF, hf⟩ := bd hf
        refine z_callV1 (rest := []) C [aI p1, aI p2, aI 9999999, aI p3] rfl (by decide) rfl rfl k_X11_comesTo tw_1113 ⟨by decide, by decide⟩ (Nat.le_of_ble_eq_true rfl) d_X11_least_34 (c_X11_comesTo C.inj hF) rfl ?_
        refine z_if_ne (tgt := 43) C d_X11_least_37 (by decide) hf (fun c37 hf => ?_) (fun c37 hf => ?_)
        · refine z_iconst (v := 1) C d_X11_least_43 (by decide) ?_
          refine z_istore (lv' := [(4, aI 1), (0, aR 1), (1, aI p1), (2, aI p2), (3, aI p3)]) C d_X11_least_44 (by decide) rfl ?_
          refine z_ldcw (v := 9999999) C tw_1077 d_X11_least_46 ?_
          refine z_istore (lv' := [(5, aI 9999999), (4, aI 1), (0, aR 1), (1, aI p1), (2, aI p2), (3, aI p3)]) C d_X11_least_49 (by decide) rfl ?_
          refine z_iconst (v := 0) C d_X11_least_51 (by decide) ?_
          refine z_istore (lv' := [(6, aI 0), (5, aI 9999999), (4, aI 1), (0, aR 1), (1, aI p1), (2, aI p2), (3, aI p3)]) C d_X11_least_52 (by decide) rfl ?_
          exact z_sub [3, 4, 5, 6, 2, 1, 0] rfl (t_X11_least_54 C hr  100000 _ _ _ _ _ _ _ hf)
        · refine z_bipush (v := (-2)) C d_X11_least_40 (by decide) ?_
          exact r_i C hr rfl d_X11_least_42 hf
      · exact z_sub [] rfl (t_X11_least_25 C hr  _ hf)
theorem d_X11_canWander_0 : decode cX11_canWander 0 = .ok (.aload_n 0, 1) := by decide +kernel
theorem d_X11_canWander_1 : decode cX11_canWander 1 = .ok (.getfield 19, 3) := by decide +kernel
theorem d_X11_canWander_4 : decode cX11_canWander 4 = .ok (.iload_n 1, 1) := by decide +kernel
theorem d_X11_canWander_5 : decode cX11_canWander 5 = .ok (.invokevirtual 125, 3) := by decide +kernel
theorem d_X11_canWander_8 : decode cX11_canWander 8 = .ok (.ifCond .eq 30, 3) := by decide +kernel
theorem d_X11_canWander_11 : decode cX11_canWander 11 = .ok (.aload_n 0, 1) := by decide +kernel
theorem d_X11_canWander_12 : decode cX11_canWander 12 = .ok (.getfield 19, 3) := by decide +kernel
theorem d_X11_canWander_15 : decode cX11_canWander 15 = .ok (.iload_n 2, 1) := by decide +kernel
theorem d_X11_canWander_16 : decode cX11_canWander 16 = .ok (.invokevirtual 125, 3) := by decide +kernel
theorem d_X11_canWander_19 : decode cX11_canWander 19 = .ok (.ifCond .eq 19, 3) := by decide +kernel
theorem d_X11_canWander_22 : decode cX11_canWander 22 = .ok (.iload_n 1, 1) := by decide +kernel
theorem d_X11_canWander_23 : decode cX11_canWander 23 = .ok (.iload_n 2, 1) := by decide +kernel
theorem d_X11_canWander_24 : decode cX11_canWander 24 = .ok (.if_icmp .eq 14, 3) := by decide +kernel
theorem d_X11_canWander_27 : decode cX11_canWander 27 = .ok (.iload_n 3, 1) := by decide +kernel
theorem d_X11_canWander_28 : decode cX11_canWander 28 = .ok (.invokestatic 247, 3) := by decide +kernel
theorem d_X11_canWander_31 : decode cX11_canWander 31 = .ok (.ifCond .eq 7, 3) := by decide +kernel
theorem d_X11_canWander_34 : decode cX11_canWander 34 = .ok (.iconst 1, 1) := by decide +kernel
theorem d_X11_canWander_35 : decode cX11_canWander 35 = .ok (.goto 4, 3) := by decide +kernel
theorem d_X11_canWander_38 : decode cX11_canWander 38 = .ok (.iconst 0, 1) := by decide +kernel
theorem d_X11_canWander_39 : decode cX11_canWander 39 = .ok (.ireturn, 1) := by decide +kernel
def f_X11_canWander_39 (s0 : Int32) (S : Mem) : Option (Int32 × Mem) := (if isB s0 = true then (some (s0, S)) else none)
set_option maxRecDepth 20000 in
theorem t_X11_canWander_39 {X : MC} {Γ : GG} (C : CX X Γ cX11_canWander 4 "TickPools" 1 21) (hr : X.2.2.2.2.2.2.2.2.1.sig.returnType = some .boolean) {q : Int32 × Mem} (s0 : Int32) (S : Mem) (hf : f_X11_canWander_39 s0 S = some q) : ZZ X Γ 4 (QQ X Γ (some (aI q.1)) q.2) S 39 [] [aI s0] := by
  unfold f_X11_canWander_39 at hf
  obtain ⟨hb39_0, hf⟩ := gd hf
  exact r_i C hr (isB_nar hb39_0).1 d_X11_canWander_39 hf
def f_X11_canWander_38 (S : Mem) : Option (Int32 × Mem) := (f_X11_canWander_39  0 S)
set_option maxRecDepth 20000 in
theorem t_X11_canWander_38 {X : MC} {Γ : GG} (C : CX X Γ cX11_canWander 4 "TickPools" 1 21) (hr : X.2.2.2.2.2.2.2.2.1.sig.returnType = some .boolean) {q : Int32 × Mem} (S : Mem) (hf : f_X11_canWander_38 S = some q) : ZZ X Γ 4 (QQ X Γ (some (aI q.1)) q.2) S 38 [] [] := by
  unfold f_X11_canWander_38 at hf
  refine z_iconst (v := 0) C d_X11_canWander_38 (by decide) ?_
  exact z_sub [] rfl (t_X11_canWander_39 C hr  _ _ hf)
/-- TickPools.canWander(III)Z -/
def f_X11_canWander (p1 : Int32) (p2 : Int32) (p3 : Int32) (S : Mem) : Option (Int32 × Mem) := ((f_X2_hasThing 78 p1 S).bind fun q5 => (if q5.1 = 0 then (f_X11_canWander_38  q5.2) else ((f_X2_hasThing 78 p2 q5.2).bind fun q16 => (if q16.1 = 0 then (f_X11_canWander_38  q16.2) else (if p1 = p2 then (f_X11_canWander_38  q16.2) else ((f_X11_isAmount p3 q16.2).bind fun q28 => (if q28.1 = 0 then (f_X11_canWander_38  q28.2) else (f_X11_canWander_39  1 q28.2))))))))
set_option maxRecDepth 20000 in
theorem c_X11_canWander {l : Launch} {Γ : GG} (hI : Inj Γ) {p1 : Int32} {p2 : Int32} {p3 : Int32} {S : Mem} {q : Int32 × Mem} (hf : f_X11_canWander p1 p2 p3 S = some q) : MM l Γ yX11_canWander cX11_canWander 4 (some .boolean) 1 21 [aR 1, aI p1, aI p2, aI p3] S (some (aI q.1)) q.2 := by
  refine met_of hI "TickPools" rfl (by decide +kernel) (Nat.le_of_ble_eq_true rfl) (fun X hX C hr => ?_)
  unfold f_X11_canWander at hf
  show ZZ X Γ 4 _ S 0 [(0, aR 1), (1, aI p1), (2, aI p2), (3, aI p3)] []
  refine z_aload_n (j := 0) C d_X11_canWander_0 rfl ?_
  refine zg_X11_live C rfl tw_461 d_X11_canWander_1 ?_
  refine z_iload_n (j := 1) C d_X11_canWander_4 rfl ?_
  obtain ⟨q5, hF, hf⟩ := bd hf
  refine z_callV1 (rest := []) C [aI p1] rfl (by decide) rfl rfl k_X2_hasThing tw_1015 ⟨by decide, by decide⟩ (Nat.le_of_ble_eq_true rfl) d_X11_canWander_5 (c_X2_hasThing C.inj hF) rfl ?_
  refine z_if_eq (tgt := 38) C d_X11_canWander_8 (by decide) hf (fun c8 hf => ?_) (fun c8 hf => ?_)
  · exact z_sub [] rfl (t_X11_canWander_38 C hr  _ hf)
  · refine z_aload_n (j := 0) C d_X11_canWander_11 rfl ?_
    refine zg_X11_live C rfl tw_461 d_X11_canWander_12 ?_
    refine z_iload_n (j := 2) C d_X11_canWander_15 rfl ?_
    obtain ⟨q16, hF, hf⟩ := bd hf
    refine z_callV1 (rest := []) C [aI p2] rfl (by decide) rfl rfl k_X2_hasThing tw_1015 ⟨by decide, by decide⟩ (Nat.le_of_ble_eq_true rfl) d_X11_canWander_16 (c_X2_hasThing C.inj hF) rfl ?_
    refine z_if_eq (tgt := 38) C d_X11_canWander_19 (by decide) hf (fun c19 hf => ?_) (fun c19 hf => ?_)
    · exact z_sub [] rfl (t_X11_canWander_38 C hr  _ hf)
    · refine z_iload_n (j := 1) C d_X11_canWander_22 rfl ?_
      refine z_iload_n (j := 2) C d_X11_canWander_23 rfl ?_
      refine z_icmp_eq (tgt := 38) C d_X11_canWander_24 (by decide) hf (fun c24 hf => ?_) (fun c24 hf => ?_)
      · exact z_sub [] rfl (t_X11_canWander_38 C hr  _ hf)
      · refine z_iload_n (j := 3) C d_X11_canWander_27 rfl ?_
        obtain ⟨q28, hF, hf⟩ := bd hf
        refine z_callS1 (rest := []) C [aI p3] k_X11_isAmount tw_1074 ⟨by decide, by decide⟩ (Nat.le_of_ble_eq_true rfl) d_X11_canWander_28 (c_X11_isAmount C.inj hF) rfl ?_
        refine z_if_eq (tgt := 38) C d_X11_canWander_31 (by decide) hf (fun c31 hf => ?_) (fun c31 hf => ?_)
        · exact z_sub [] rfl (t_X11_canWander_38 C hr  _ hf)
        · refine z_iconst (v := 1) C d_X11_canWander_34 (by decide) ?_
          refine z_goto (tgt := 39) C d_X11_canWander_35 (by decide) ?_
          exact z_sub [] rfl (t_X11_canWander_39 C hr  _ _ hf)
theorem d_X11_route_0 : decode cX11_route 0 = .ok (.aload_n 0, 1) := by decide +kernel
theorem d_X11_route_1 : decode cX11_route 1 = .ok (.iload_n 1, 1) := by decide +kernel
theorem d_X11_route_2 : decode cX11_route 2 = .ok (.iload_n 2, 1) := by decide +kernel
theorem d_X11_route_3 : decode cX11_route 3 = .ok (.iload_n 3, 1) := by decide +kernel
theorem d_X11_route_4 : decode cX11_route 4 = .ok (.invokevirtual 292, 3) := by decide +kernel
theorem d_X11_route_7 : decode cX11_route 7 = .ok (.ifCond .eq 14, 3) := by decide +kernel
theorem d_X11_route_10 : decode cX11_route 10 = .ok (.iload 4, 2) := by decide +kernel
theorem d_X11_route_12 : decode cX11_route 12 = .ok (.ifCond .lt 9, 3) := by decide +kernel
theorem d_X11_route_15 : decode cX11_route 15 = .ok (.iload 4, 2) := by decide +kernel
theorem d_X11_route_17 : decode cX11_route 17 = .ok (.iconst 4, 1) := by decide +kernel
theorem d_X11_route_18 : decode cX11_route 18 = .ok (.if_icmp .le 5, 3) := by decide +kernel
theorem d_X11_route_21 : decode cX11_route 21 = .ok (.iconst (-1), 1) := by decide +kernel
theorem d_X11_route_22 : decode cX11_route 22 = .ok (.ireturn, 1) := by decide +kernel
theorem d_X11_route_23 : decode cX11_route 23 = .ok (.aload_n 0, 1) := by decide +kernel
theorem d_X11_route_24 : decode cX11_route 24 = .ok (.getfield 65, 3) := by decide +kernel
theorem d_X11_route_27 : decode cX11_route 27 = .ok (.iload_n 3, 1) := by decide +kernel
theorem d_X11_route_28 : decode cX11_route 28 = .ok (.ineg, 1) := by decide +kernel
theorem d_X11_route_29 : decode cX11_route 29 = .ok (.invokevirtual 295, 3) := by decide +kernel
theorem d_X11_route_32 : decode cX11_route 32 = .ok (.aload_n 0, 1) := by decide +kernel
theorem d_X11_route_33 : decode cX11_route 33 = .ok (.getfield 65, 3) := by decide +kernel
theorem d_X11_route_36 : decode cX11_route 36 = .ok (.aload_n 0, 1) := by decide +kernel
theorem d_X11_route_37 : decode cX11_route 37 = .ok (.getfield 19, 3) := by decide +kernel
theorem d_X11_route_40 : decode cX11_route 40 = .ok (.iload_n 1, 1) := by decide +kernel
theorem d_X11_route_41 : decode cX11_route 41 = .ok (.iload_n 2, 1) := by decide +kernel
theorem d_X11_route_42 : decode cX11_route 42 = .ok (.iload_n 3, 1) := by decide +kernel
theorem d_X11_route_43 : decode cX11_route 43 = .ok (.invokevirtual 298, 3) := by decide +kernel
theorem d_X11_route_46 : decode cX11_route 46 = .ok (.aload_n 0, 1) := by decide +kernel
theorem d_X11_route_47 : decode cX11_route 47 = .ok (.getfield 65, 3) := by decide +kernel
theorem d_X11_route_50 : decode cX11_route 50 = .ok (.getfield 302, 3) := by decide +kernel
theorem d_X11_route_53 : decode cX11_route 53 = .ok (.ifCond .ne 6, 3) := by decide +kernel
theorem d_X11_route_56 : decode cX11_route 56 = .ok (.bipush (-2), 2) := by decide +kernel
theorem d_X11_route_58 : decode cX11_route 58 = .ok (.ireturn, 1) := by decide +kernel
theorem d_X11_route_59 : decode cX11_route 59 = .ok (.iload 4, 2) := by decide +kernel
theorem d_X11_route_61 : decode cX11_route 61 = .ok (.lookupswitch 47 #[(0, 27), (1, 39)], 27) := by decide +kernel
theorem d_X11_route_88 : decode cX11_route 88 = .ok (.aload_n 0, 1) := by decide +kernel
theorem d_X11_route_89 : decode cX11_route 89 = .ok (.getfield 65, 3) := by decide +kernel
theorem d_X11_route_92 : decode cX11_route 92 = .ok (.getfield 305, 3) := by decide +kernel
theorem d_X11_route_95 : decode cX11_route 95 = .ok (.iload_n 3, 1) := by decide +kernel
theorem d_X11_route_96 : decode cX11_route 96 = .ok (.i2l, 1) := by decide +kernel
theorem d_X11_route_97 : decode cX11_route 97 = .ok (.ladd, 1) := by decide +kernel
theorem d_X11_route_98 : decode cX11_route 98 = .ok (.l2i, 1) := by decide +kernel
theorem d_X11_route_99 : decode cX11_route 99 = .ok (.ireturn, 1) := by decide +kernel
theorem d_X11_route_100 : decode cX11_route 100 = .ok (.aload_n 0, 1) := by decide +kernel
theorem d_X11_route_101 : decode cX11_route 101 = .ok (.getfield 65, 3) := by decide +kernel
theorem d_X11_route_104 : decode cX11_route 104 = .ok (.getfield 302, 3) := by decide +kernel
theorem d_X11_route_107 : decode cX11_route 107 = .ok (.ireturn, 1) := by decide +kernel
theorem d_X11_route_108 : decode cX11_route 108 = .ok (.aload_n 0, 1) := by decide +kernel
theorem d_X11_route_109 : decode cX11_route 109 = .ok (.getfield 65, 3) := by decide +kernel
theorem d_X11_route_112 : decode cX11_route 112 = .ok (.iload 4, 2) := by decide +kernel
theorem d_X11_route_114 : decode cX11_route 114 = .ok (.iconst 2, 1) := by decide +kernel
theorem d_X11_route_115 : decode cX11_route 115 = .ok (.isub, 1) := by decide +kernel
theorem d_X11_route_116 : decode cX11_route 116 = .ok (.invokevirtual 308, 3) := by decide +kernel
theorem d_X11_route_119 : decode cX11_route 119 = .ok (.ireturn, 1) := by decide +kernel
def f_X11_route_21 (S : Mem) : Option (Int32 × Mem) := (some ((-1), S))
set_option maxRecDepth 20000 in
theorem t_X11_route_21 {X : MC} {Γ : GG} (C : CX X Γ cX11_route 5 "TickPools" 7 205) (hr : X.2.2.2.2.2.2.2.2.1.sig.returnType = some .int) {q : Int32 × Mem} (S : Mem) (hf : f_X11_route_21 S = some q) : ZZ X Γ 5 (QQ X Γ (some (aI q.1)) q.2) S 21 [] [] := by
  unfold f_X11_route_21 at hf
  refine z_iconst (v := (-1)) C d_X11_route_21 (by decide) ?_
  exact r_i C hr rfl d_X11_route_22 hf
/-- TickPools.route(IIII)I -/
def f_X11_route (p1 : Int32) (p2 : Int32) (p3 : Int32) (p4 : Int32) (S : Mem) : Option (Int32 × Mem) := ((f_X11_canWander p1 p2 p3 S).bind fun q4 => (if q4.1 = 0 then (f_X11_route_21  q4.2) else (if p4 < 0 then (f_X11_route_21  q4.2) else (if p4 ≤ 4 then ((f_X1_forget (-p3) q4.2).bind fun q29 => ((f_X1_search 78 p1 p2 p3 q29.2).bind fun q43 => (if (gI q43.2 14 2) = 0 then (some ((-2), q43.2)) else (if p4 = 0 then (some (((((gL q43.2 14 0) + (p3.toInt64)) : Int64).toInt32), q43.2)) else (if p4 = 1 then (some ((gI q43.2 14 2), q43.2)) else ((f_X1_bestPool (p4 - 2) q43.2).bind fun q116 => (some (q116.1, q116.2)))))))) else (f_X11_route_21  q4.2)))))
set_option maxRecDepth 20000 in
theorem c_X11_route {l : Launch} {Γ : GG} (hI : Inj Γ) {p1 : Int32} {p2 : Int32} {p3 : Int32} {p4 : Int32} {S : Mem} {q : Int32 × Mem} (hf : f_X11_route p1 p2 p3 p4 S = some q) : MM l Γ yX11_route cX11_route 5 (some .int) 7 205 [aR 1, aI p1, aI p2, aI p3, aI p4] S (some (aI q.1)) q.2 := by
  refine met_of hI "TickPools" rfl (by decide +kernel) (Nat.le_of_ble_eq_true rfl) (fun X hX C hr => ?_)
  unfold f_X11_route at hf
  show ZZ X Γ 5 _ S 0 [(0, aR 1), (1, aI p1), (2, aI p2), (3, aI p3), (4, aI p4)] []
  refine z_aload_n (j := 0) C d_X11_route_0 rfl ?_
  refine z_iload_n (j := 1) C d_X11_route_1 rfl ?_
  refine z_iload_n (j := 2) C d_X11_route_2 rfl ?_
  refine z_iload_n (j := 3) C d_X11_route_3 rfl ?_
  obtain ⟨q4, hF, hf⟩ := bd hf
  refine z_callV1 (rest := []) C [aI p1, aI p2, aI p3] rfl (by decide) rfl rfl k_X11_canWander tw_1121 ⟨by decide, by decide⟩ (Nat.le_of_ble_eq_true rfl) d_X11_route_4 (c_X11_canWander C.inj hF) rfl ?_
  refine z_if_eq (tgt := 21) C d_X11_route_7 (by decide) hf (fun c7 hf => ?_) (fun c7 hf => ?_)
  · exact z_sub [] rfl (t_X11_route_21 C hr  _ hf)
  · refine z_iload (j := 4) C d_X11_route_10 rfl ?_
    refine z_if_lt (tgt := 21) C d_X11_route_12 (by decide) hf (fun c12 hf => ?_) (fun c12 hf => ?_)
    · exact z_sub [] rfl (t_X11_route_21 C hr  _ hf)
    · refine z_iload (j := 4) C d_X11_route_15 rfl ?_
      refine z_iconst (v := 4) C d_X11_route_17 (by decide) ?_
      refine z_icmp_le (tgt := 23) C d_X11_route_18 (by decide) hf (fun c18 hf => ?_) (fun c18 hf => ?_)
      · refine z_aload_n (j := 0) C d_X11_route_23 rfl ?_
        refine zg_X11_finder C rfl tw_467 d_X11_route_24 ?_
        refine z_iload_n (j := 3) C d_X11_route_27 rfl ?_
        refine z_ineg C d_X11_route_28 ?_
        obtain ⟨q29, hF, hf⟩ := bd hf
        refine z_callV0 (rest := []) C [aI (-p3)] rfl (by decide) rfl rfl k_X1_forget tw_1125 ⟨by decide, by decide⟩ (Nat.le_of_ble_eq_true rfl) d_X11_route_29 (c_X1_forget C.inj hF) rfl ?_
        refine z_aload_n (j := 0) C d_X11_route_32 rfl ?_
        refine zg_X11_finder C rfl tw_467 d_X11_route_33 ?_
        refine z_aload_n (j := 0) C d_X11_route_36 rfl ?_
        refine zg_X11_live C rfl tw_461 d_X11_route_37 ?_
        refine z_iload_n (j := 1) C d_X11_route_40 rfl ?_
        refine z_iload_n (j := 2) C d_X11_route_41 rfl ?_
        refine z_iload_n (j := 3) C d_X11_route_42 rfl ?_
        obtain ⟨q43, hF, hf⟩ := bd hf
        refine z_callV0 (rest := []) C [aR 78, aI p1, aI p2, aI p3] rfl (by decide) rfl rfl k_X1_search tw_1129 ⟨by decide, by decide⟩ (Nat.le_of_ble_eq_true rfl) d_X11_route_43 (c_X1_search C.inj hF) rfl ?_
        refine z_aload_n (j := 0) C d_X11_route_46 rfl ?_
        refine zg_X11_finder C rfl tw_467 d_X11_route_47 ?_
        refine zg_X1_bestLength C rfl tw_434 d_X11_route_50 ?_
        refine z_if_ne (tgt := 59) C d_X11_route_53 (by decide) hf (fun c53 hf => ?_) (fun c53 hf => ?_)
        · refine z_iload (j := 4) C d_X11_route_59 rfl ?_
          by_cases c61_0 : p4 = 0
          · rw [if_pos c61_0] at hf
            refine z_lsw (off := 27) (tgt := 88) C d_X11_route_61 rfl (by rw [c61_0]; first | done | rfl) (by decide) ?_
            refine z_aload_n (j := 0) C d_X11_route_88 rfl ?_
            refine zg_X11_finder C rfl tw_467 d_X11_route_89 ?_
            refine zg_X1_bestGain C rfl tw_430 d_X11_route_92 ?_
            refine z_iload_n (j := 3) C d_X11_route_95 rfl ?_
            refine z_i2l C d_X11_route_96 ?_
            refine z_ladd C d_X11_route_97 ?_
            refine z_l2i C d_X11_route_98 ?_
            exact r_i C hr rfl d_X11_route_99 hf
          rw [if_neg c61_0] at hf
          have d61_0 := tn (n := 0) c61_0 (by decide)
          by_cases c61_1 : p4 = 1
          · rw [if_pos c61_1] at hf
            refine z_lsw (off := 39) (tgt := 100) C d_X11_route_61 rfl (by rw [c61_1]; first | done | rfl) (by decide) ?_
            refine z_aload_n (j := 0) C d_X11_route_100 rfl ?_
            refine zg_X11_finder C rfl tw_467 d_X11_route_101 ?_
            refine zg_X1_bestLength C rfl tw_434 d_X11_route_104 ?_
            exact r_i C hr rfl d_X11_route_107 hf
          rw [if_neg c61_1] at hf
          have d61_1 := tn (n := 1) c61_1 (by decide)
          refine z_lsw (off := 47) (tgt := 108) C d_X11_route_61 rfl (by simp [Op.lookupswitch.offset, Ne.symm d61_0, Ne.symm d61_1]) (by decide) ?_
          refine z_aload_n (j := 0) C d_X11_route_108 rfl ?_
          refine zg_X11_finder C rfl tw_467 d_X11_route_109 ?_
          refine z_iload (j := 4) C d_X11_route_112 rfl ?_
          refine z_iconst (v := 2) C d_X11_route_114 (by decide) ?_
          refine z_isub C d_X11_route_115 ?_
          obtain ⟨q116, hF, hf⟩ := bd hf
          refine z_callV1 (rest := []) C [aI (p4 - 2)] rfl (by decide) rfl rfl k_X1_bestPool tw_1159 ⟨by decide, by decide⟩ (Nat.le_of_ble_eq_true rfl) d_X11_route_116 (c_X1_bestPool C.inj hF) rfl ?_
          exact r_i C hr rfl d_X11_route_119 hf
        · refine z_bipush (v := (-2)) C d_X11_route_56 (by decide) ?_
          exact r_i C hr rfl d_X11_route_58 hf
      · exact z_sub [] rfl (t_X11_route_21 C hr  _ hf)
theorem d_X11_parts_0 : decode cX11_parts 0 = .ok (.aload_n 0, 1) := by decide +kernel
theorem d_X11_parts_1 : decode cX11_parts 1 = .ok (.iload_n 1, 1) := by decide +kernel
theorem d_X11_parts_2 : decode cX11_parts 2 = .ok (.iload_n 2, 1) := by decide +kernel
theorem d_X11_parts_3 : decode cX11_parts 3 = .ok (.iload_n 3, 1) := by decide +kernel
theorem d_X11_parts_4 : decode cX11_parts 4 = .ok (.invokevirtual 292, 3) := by decide +kernel
theorem d_X11_parts_7 : decode cX11_parts 7 = .ok (.ifCond .eq 14, 3) := by decide +kernel
theorem d_X11_parts_10 : decode cX11_parts 10 = .ok (.iload 4, 2) := by decide +kernel
theorem d_X11_parts_12 : decode cX11_parts 12 = .ok (.ifCond .lt 9, 3) := by decide +kernel
theorem d_X11_parts_15 : decode cX11_parts 15 = .ok (.iload 4, 2) := by decide +kernel
theorem d_X11_parts_17 : decode cX11_parts 17 = .ok (.iconst 1, 1) := by decide +kernel
theorem d_X11_parts_18 : decode cX11_parts 18 = .ok (.if_icmp .le 5, 3) := by decide +kernel
theorem d_X11_parts_21 : decode cX11_parts 21 = .ok (.iconst (-1), 1) := by decide +kernel
theorem d_X11_parts_22 : decode cX11_parts 22 = .ok (.ireturn, 1) := by decide +kernel
theorem d_X11_parts_23 : decode cX11_parts 23 = .ok (.aload_n 0, 1) := by decide +kernel
theorem d_X11_parts_24 : decode cX11_parts 24 = .ok (.getfield 23, 3) := by decide +kernel
theorem d_X11_parts_27 : decode cX11_parts 27 = .ok (.aload_n 0, 1) := by decide +kernel
theorem d_X11_parts_28 : decode cX11_parts 28 = .ok (.getfield 19, 3) := by decide +kernel
theorem d_X11_parts_31 : decode cX11_parts 31 = .ok (.invokevirtual 87, 3) := by decide +kernel
theorem d_X11_parts_34 : decode cX11_parts 34 = .ok (.lconst 0, 1) := by decide +kernel
theorem d_X11_parts_35 : decode cX11_parts 35 = .ok (.lstore 5, 2) := by decide +kernel
theorem d_X11_parts_37 : decode cX11_parts 37 = .ok (.iconst 0, 1) := by decide +kernel
theorem d_X11_parts_38 : decode cX11_parts 38 = .ok (.istore 7, 2) := by decide +kernel
theorem d_X11_parts_40 : decode cX11_parts 40 = .ok (.iconst 0, 1) := by decide +kernel
theorem d_X11_parts_41 : decode cX11_parts 41 = .ok (.istore 8, 2) := by decide +kernel
theorem d_X11_parts_43 : decode cX11_parts 43 = .ok (.iconst 1, 1) := by decide +kernel
theorem d_X11_parts_44 : decode cX11_parts 44 = .ok (.istore 9, 2) := by decide +kernel
theorem d_X11_parts_46 : decode cX11_parts 46 = .ok (.iload 9, 2) := by decide +kernel
theorem d_X11_parts_48 : decode cX11_parts 48 = .ok (.bipush 10, 2) := by decide +kernel
theorem d_X11_parts_50 : decode cX11_parts 50 = .ok (.if_icmp .gt 142, 3) := by decide +kernel
theorem d_X11_parts_53 : decode cX11_parts 53 = .ok (.iload_n 3, 1) := by decide +kernel
theorem d_X11_parts_54 : decode cX11_parts 54 = .ok (.iload 9, 2) := by decide +kernel
theorem d_X11_parts_56 : decode cX11_parts 56 = .ok (.imul, 1) := by decide +kernel
theorem d_X11_parts_57 : decode cX11_parts 57 = .ok (.bipush 10, 2) := by decide +kernel
theorem d_X11_parts_59 : decode cX11_parts 59 = .ok (.idiv, 1) := by decide +kernel
theorem d_X11_parts_60 : decode cX11_parts 60 = .ok (.iload_n 3, 1) := by decide +kernel
theorem d_X11_parts_61 : decode cX11_parts 61 = .ok (.iload 9, 2) := by decide +kernel
theorem d_X11_parts_63 : decode cX11_parts 63 = .ok (.iconst 1, 1) := by decide +kernel
theorem d_X11_parts_64 : decode cX11_parts 64 = .ok (.isub, 1) := by decide +kernel
theorem d_X11_parts_65 : decode cX11_parts 65 = .ok (.imul, 1) := by decide +kernel
theorem d_X11_parts_66 : decode cX11_parts 66 = .ok (.bipush 10, 2) := by decide +kernel
theorem d_X11_parts_68 : decode cX11_parts 68 = .ok (.idiv, 1) := by decide +kernel
theorem d_X11_parts_69 : decode cX11_parts 69 = .ok (.isub, 1) := by decide +kernel
theorem d_X11_parts_70 : decode cX11_parts 70 = .ok (.istore 10, 2) := by decide +kernel
theorem d_X11_parts_72 : decode cX11_parts 72 = .ok (.iload 10, 2) := by decide +kernel
theorem d_X11_parts_74 : decode cX11_parts 74 = .ok (.ifCond .le 112, 3) := by decide +kernel
theorem d_X11_parts_77 : decode cX11_parts 77 = .ok (.aload_n 0, 1) := by decide +kernel
theorem d_X11_parts_78 : decode cX11_parts 78 = .ok (.getfield 65, 3) := by decide +kernel
theorem d_X11_parts_81 : decode cX11_parts 81 = .ok (.iload 10, 2) := by decide +kernel
theorem d_X11_parts_83 : decode cX11_parts 83 = .ok (.ineg, 1) := by decide +kernel
theorem d_X11_parts_84 : decode cX11_parts 84 = .ok (.invokevirtual 295, 3) := by decide +kernel
theorem d_X11_parts_87 : decode cX11_parts 87 = .ok (.aload_n 0, 1) := by decide +kernel
theorem d_X11_parts_88 : decode cX11_parts 88 = .ok (.getfield 65, 3) := by decide +kernel
theorem d_X11_parts_91 : decode cX11_parts 91 = .ok (.aload_n 0, 1) := by decide +kernel
theorem d_X11_parts_92 : decode cX11_parts 92 = .ok (.getfield 23, 3) := by decide +kernel
theorem d_X11_parts_95 : decode cX11_parts 95 = .ok (.iload_n 1, 1) := by decide +kernel
theorem d_X11_parts_96 : decode cX11_parts 96 = .ok (.iload_n 2, 1) := by decide +kernel
theorem d_X11_parts_97 : decode cX11_parts 97 = .ok (.iload 10, 2) := by decide +kernel
theorem d_X11_parts_99 : decode cX11_parts 99 = .ok (.invokevirtual 298, 3) := by decide +kernel
theorem d_X11_parts_102 : decode cX11_parts 102 = .ok (.aload_n 0, 1) := by decide +kernel
theorem d_X11_parts_103 : decode cX11_parts 103 = .ok (.getfield 65, 3) := by decide +kernel
theorem d_X11_parts_106 : decode cX11_parts 106 = .ok (.getfield 302, 3) := by decide +kernel
theorem d_X11_parts_109 : decode cX11_parts 109 = .ok (.ifCond .ne 6, 3) := by decide +kernel
theorem d_X11_parts_112 : decode cX11_parts 112 = .ok (.bipush (-2), 2) := by decide +kernel
theorem d_X11_parts_114 : decode cX11_parts 114 = .ok (.ireturn, 1) := by decide +kernel
theorem d_X11_parts_115 : decode cX11_parts 115 = .ok (.iload 8, 2) := by decide +kernel
theorem d_X11_parts_117 : decode cX11_parts 117 = .ok (.ifCond .ne 13, 3) := by decide +kernel
theorem d_X11_parts_120 : decode cX11_parts 120 = .ok (.aload_n 0, 1) := by decide +kernel
theorem d_X11_parts_121 : decode cX11_parts 121 = .ok (.getfield 65, 3) := by decide +kernel
theorem d_X11_parts_124 : decode cX11_parts 124 = .ok (.invokevirtual 311, 3) := by decide +kernel
theorem d_X11_parts_127 : decode cX11_parts 127 = .ok (.goto 5, 3) := by decide +kernel
theorem d_X11_parts_130 : decode cX11_parts 130 = .ok (.iload 8, 2) := by decide +kernel
theorem d_X11_parts_132 : decode cX11_parts 132 = .ok (.istore 8, 2) := by decide +kernel
theorem d_X11_parts_134 : decode cX11_parts 134 = .ok (.iload 7, 2) := by decide +kernel
theorem d_X11_parts_136 : decode cX11_parts 136 = .ok (.aload_n 0, 1) := by decide +kernel
theorem d_X11_parts_137 : decode cX11_parts 137 = .ok (.getfield 65, 3) := by decide +kernel
theorem d_X11_parts_140 : decode cX11_parts 140 = .ok (.invokevirtual 311, 3) := by decide +kernel
theorem d_X11_parts_143 : decode cX11_parts 143 = .ok (.iload 8, 2) := by decide +kernel
theorem d_X11_parts_145 : decode cX11_parts 145 = .ok (.if_icmp .ne 7, 3) := by decide +kernel
theorem d_X11_parts_148 : decode cX11_parts 148 = .ok (.iconst 0, 1) := by decide +kernel
theorem d_X11_parts_149 : decode cX11_parts 149 = .ok (.goto 4, 3) := by decide +kernel
theorem d_X11_parts_152 : decode cX11_parts 152 = .ok (.iconst 1, 1) := by decide +kernel
theorem d_X11_parts_153 : decode cX11_parts 153 = .ok (.iadd, 1) := by decide +kernel
theorem d_X11_parts_154 : decode cX11_parts 154 = .ok (.istore 7, 2) := by decide +kernel
theorem d_X11_parts_156 : decode cX11_parts 156 = .ok (.lload 5, 2) := by decide +kernel
theorem d_X11_parts_158 : decode cX11_parts 158 = .ok (.aload_n 0, 1) := by decide +kernel
theorem d_X11_parts_159 : decode cX11_parts 159 = .ok (.getfield 65, 3) := by decide +kernel
theorem d_X11_parts_162 : decode cX11_parts 162 = .ok (.getfield 305, 3) := by decide +kernel
theorem d_X11_parts_165 : decode cX11_parts 165 = .ok (.iload 10, 2) := by decide +kernel
theorem d_X11_parts_167 : decode cX11_parts 167 = .ok (.i2l, 1) := by decide +kernel
theorem d_X11_parts_168 : decode cX11_parts 168 = .ok (.ladd, 1) := by decide +kernel
theorem d_X11_parts_169 : decode cX11_parts 169 = .ok (.ladd, 1) := by decide +kernel
theorem d_X11_parts_170 : decode cX11_parts 170 = .ok (.lstore 5, 2) := by decide +kernel
theorem d_X11_parts_172 : decode cX11_parts 172 = .ok (.aload_n 0, 1) := by decide +kernel
theorem d_X11_parts_173 : decode cX11_parts 173 = .ok (.getfield 65, 3) := by decide +kernel
theorem d_X11_parts_176 : decode cX11_parts 176 = .ok (.aload_n 0, 1) := by decide +kernel
theorem d_X11_parts_177 : decode cX11_parts 177 = .ok (.getfield 23, 3) := by decide +kernel
theorem d_X11_parts_180 : decode cX11_parts 180 = .ok (.iload_n 1, 1) := by decide +kernel
theorem d_X11_parts_181 : decode cX11_parts 181 = .ok (.iload 10, 2) := by decide +kernel
theorem d_X11_parts_183 : decode cX11_parts 183 = .ok (.invokevirtual 314, 3) := by decide +kernel
theorem d_X11_parts_186 : decode cX11_parts 186 = .ok (.iinc 9 1, 3) := by decide +kernel
theorem d_X11_parts_189 : decode cX11_parts 189 = .ok (.goto (-143), 3) := by decide +kernel
theorem d_X11_parts_192 : decode cX11_parts 192 = .ok (.iload 4, 2) := by decide +kernel
theorem d_X11_parts_194 : decode cX11_parts 194 = .ok (.ifCond .ne 9, 3) := by decide +kernel
theorem d_X11_parts_197 : decode cX11_parts 197 = .ok (.lload 5, 2) := by decide +kernel
theorem d_X11_parts_199 : decode cX11_parts 199 = .ok (.l2i, 1) := by decide +kernel
theorem d_X11_parts_200 : decode cX11_parts 200 = .ok (.goto 5, 3) := by decide +kernel
theorem d_X11_parts_203 : decode cX11_parts 203 = .ok (.iload 7, 2) := by decide +kernel
theorem d_X11_parts_205 : decode cX11_parts 205 = .ok (.ireturn, 1) := by decide +kernel
def f_X11_parts_21 (S : Mem) : Option (Int32 × Mem) := (some ((-1), S))
set_option maxRecDepth 20000 in
theorem t_X11_parts_21 {X : MC} {Γ : GG} (C : CX X Γ cX11_parts 11 "TickPools" 7 205) (hr : X.2.2.2.2.2.2.2.2.1.sig.returnType = some .int) {q : Int32 × Mem} (S : Mem) (hf : f_X11_parts_21 S = some q) : ZZ X Γ 11 (QQ X Γ (some (aI q.1)) q.2) S 21 [] [] := by
  unfold f_X11_parts_21 at hf
  refine z_iconst (v := (-1)) C d_X11_parts_21 (by decide) ?_
  exact r_i C hr rfl d_X11_parts_22 hf
def f_X11_parts_186 (k46 : Int32 → Int32 → Int32 → Int32 → Int64 → Int32 → Int32 → Int32 → Mem → Option (Int32 × Mem)) (v1 : Int32) (v2 : Int32) (v3 : Int32) (v4 : Int32) (v5 : Int64) (v7 : Int32) (v8 : Int32) (v9 : Int32) (S : Mem) : Option (Int32 × Mem) := (k46 v1 v2 v3 v4 v5 v7 v8 (v9 + 1) S)
set_option maxRecDepth 20000 in
theorem t_X11_parts_186 {X : MC} {Γ : GG} (C : CX X Γ cX11_parts 11 "TickPools" 7 205) (hr : X.2.2.2.2.2.2.2.2.1.sig.returnType = some .int) {k46 : Int32 → Int32 → Int32 → Int32 → Int64 → Int32 → Int32 → Int32 → Mem → Option (Int32 × Mem)} {q : Int32 × Mem} (hk46 : ∀ (v1 : Int32) (v2 : Int32) (v3 : Int32) (v4 : Int32) (v5 : Int64) (v7 : Int32) (v8 : Int32) (v9 : Int32) (S : Mem), k46 v1 v2 v3 v4 v5 v7 v8 v9 S = some q → ZZ X Γ 11 (QQ X Γ (some (aI q.1)) q.2) S 46 [(0, aR 1), (1, aI v1), (2, aI v2), (3, aI v3), (4, aI v4), (5, aJ v5), (7, aI v7), (8, aI v8), (9, aI v9)] []) (v1 : Int32) (v2 : Int32) (v3 : Int32) (v4 : Int32) (v5 : Int64) (v7 : Int32) (v8 : Int32) (v9 : Int32) (S : Mem) (hf : f_X11_parts_186 k46 v1 v2 v3 v4 v5 v7 v8 v9 S = some q) : ZZ X Γ 11 (QQ X Γ (some (aI q.1)) q.2) S 186 [(0, aR 1), (1, aI v1), (2, aI v2), (3, aI v3), (4, aI v4), (5, aJ v5), (7, aI v7), (8, aI v8), (9, aI v9)] [] := by
  unfold f_X11_parts_186 at hf
  refine z_iinc (j := 8) (v := (v9 + 1)) (lv' := [(9, aI (v9 + 1)), (0, aR 1), (1, aI v1), (2, aI v2), (3, aI v3), (4, aI v4), (5, aJ v5), (7, aI v7), (8, aI v8)]) C d_X11_parts_186 rfl rfl (by decide) rfl ?_
  refine z_goto (tgt := 46) C d_X11_parts_189 (by decide) ?_
  exact z_sub [1, 2, 3, 4, 5, 6, 7, 8, 0] rfl (hk46 _ _ _ _ _ _ _ _ _ hf)
def f_X11_parts_172 (k46 : Int32 → Int32 → Int32 → Int32 → Int64 → Int32 → Int32 → Int32 → Mem → Option (Int32 × Mem)) (v1 : Int32) (v2 : Int32) (v3 : Int32) (v4 : Int32) (v5 : Int64) (v7 : Int32) (v8 : Int32) (v9 : Int32) (v10 : Int32) (S : Mem) : Option (Int32 × Mem) := ((f_X1_follow 143 v1 v10 S).bind fun q183 => (f_X11_parts_186 k46 v1 v2 v3 v4 v5 v7 v8 v9 q183.2))
set_option maxRecDepth 20000 in
theorem t_X11_parts_172 {X : MC} {Γ : GG} (C : CX X Γ cX11_parts 11 "TickPools" 7 205) (hr : X.2.2.2.2.2.2.2.2.1.sig.returnType = some .int) {k46 : Int32 → Int32 → Int32 → Int32 → Int64 → Int32 → Int32 → Int32 → Mem → Option (Int32 × Mem)} {q : Int32 × Mem} (hk46 : ∀ (v1 : Int32) (v2 : Int32) (v3 : Int32) (v4 : Int32) (v5 : Int64) (v7 : Int32) (v8 : Int32) (v9 : Int32) (S : Mem), k46 v1 v2 v3 v4 v5 v7 v8 v9 S = some q → ZZ X Γ 11 (QQ X Γ (some (aI q.1)) q.2) S 46 [(0, aR 1), (1, aI v1), (2, aI v2), (3, aI v3), (4, aI v4), (5, aJ v5), (7, aI v7), (8, aI v8), (9, aI v9)] []) (v1 : Int32) (v2 : Int32) (v3 : Int32) (v4 : Int32) (v5 : Int64) (v7 : Int32) (v8 : Int32) (v9 : Int32) (v10 : Int32) (S : Mem) (hf : f_X11_parts_172 k46 v1 v2 v3 v4 v5 v7 v8 v9 v10 S = some q) : ZZ X Γ 11 (QQ X Γ (some (aI q.1)) q.2) S 172 [(0, aR 1), (1, aI v1), (2, aI v2), (3, aI v3), (4, aI v4), (5, aJ v5), (7, aI v7), (8, aI v8), (9, aI v9), (10, aI v10)] [] := by
  unfold f_X11_parts_172 at hf
  refine z_aload_n (j := 0) C d_X11_parts_172 rfl ?_
  refine zg_X11_finder C rfl tw_467 d_X11_parts_173 ?_
  refine z_aload_n (j := 0) C d_X11_parts_176 rfl ?_
  refine zg_X11_spare C rfl tw_462 d_X11_parts_177 ?_
  refine z_iload_n (j := 1) C d_X11_parts_180 rfl ?_
  refine z_iload (j := 9) C d_X11_parts_181 rfl ?_
  obtain ⟨q183, hF, hf⟩ := bd hf
  refine z_callV0 (rest := []) C [aR 143, aI v1, aI v10] rfl (by decide) rfl rfl k_X1_follow tw_1171 ⟨by decide, by decide⟩ (Nat.le_of_ble_eq_true rfl) d_X11_parts_183 (c_X1_follow C.inj hF) rfl ?_
  exact z_sub [0, 1, 2, 3, 4, 5, 6, 7, 8] rfl (t_X11_parts_186 C hr hk46 _ _ _ _ _ _ _ _ _ hf)
def f_X11_parts_156 (k46 : Int32 → Int32 → Int32 → Int32 → Int64 → Int32 → Int32 → Int32 → Mem → Option (Int32 × Mem)) (v1 : Int32) (v2 : Int32) (v3 : Int32) (v4 : Int32) (v5 : Int64) (v7 : Int32) (v8 : Int32) (v9 : Int32) (v10 : Int32) (S : Mem) : Option (Int32 × Mem) := (f_X11_parts_172 k46 v1 v2 v3 v4 (v5 + ((gL S 14 0) + (v10.toInt64))) v7 v8 v9 v10 S)
set_option maxRecDepth 20000 in
theorem t_X11_parts_156 {X : MC} {Γ : GG} (C : CX X Γ cX11_parts 11 "TickPools" 7 205) (hr : X.2.2.2.2.2.2.2.2.1.sig.returnType = some .int) {k46 : Int32 → Int32 → Int32 → Int32 → Int64 → Int32 → Int32 → Int32 → Mem → Option (Int32 × Mem)} {q : Int32 × Mem} (hk46 : ∀ (v1 : Int32) (v2 : Int32) (v3 : Int32) (v4 : Int32) (v5 : Int64) (v7 : Int32) (v8 : Int32) (v9 : Int32) (S : Mem), k46 v1 v2 v3 v4 v5 v7 v8 v9 S = some q → ZZ X Γ 11 (QQ X Γ (some (aI q.1)) q.2) S 46 [(0, aR 1), (1, aI v1), (2, aI v2), (3, aI v3), (4, aI v4), (5, aJ v5), (7, aI v7), (8, aI v8), (9, aI v9)] []) (v1 : Int32) (v2 : Int32) (v3 : Int32) (v4 : Int32) (v5 : Int64) (v7 : Int32) (v8 : Int32) (v9 : Int32) (v10 : Int32) (S : Mem) (hf : f_X11_parts_156 k46 v1 v2 v3 v4 v5 v7 v8 v9 v10 S = some q) : ZZ X Γ 11 (QQ X Γ (some (aI q.1)) q.2) S 156 [(0, aR 1), (1, aI v1), (2, aI v2), (3, aI v3), (4, aI v4), (5, aJ v5), (7, aI v7), (8, aI v8), (9, aI v9), (10, aI v10)] [] := by
  unfold f_X11_parts_156 at hf
  refine z_lload (j := 5) C d_X11_parts_156 rfl ?_
  refine z_aload_n (j := 0) C d_X11_parts_158 rfl ?_
  refine zg_X11_finder C rfl tw_467 d_X11_parts_159 ?_
  refine zg_X1_bestGain C rfl tw_430 d_X11_parts_162 ?_
  refine z_iload (j := 9) C d_X11_parts_165 rfl ?_
  refine z_i2l C d_X11_parts_167 ?_
  refine z_ladd C d_X11_parts_168 ?_
  refine z_ladd C d_X11_parts_169 ?_
  refine z_lstore (lv' := [(5, aJ (v5 + ((gL S 14 0) + (v10.toInt64)))), (0, aR 1), (1, aI v1), (2, aI v2), (3, aI v3), (4, aI v4), (7, aI v7), (8, aI v8), (9, aI v9), (10, aI v10)]) C d_X11_parts_170 (by decide) rfl ?_
  exact z_sub [1, 2, 3, 4, 5, 0, 6, 7, 8, 9] rfl (t_X11_parts_172 C hr hk46 _ _ _ _ _ _ _ _ _ _ hf)
def f_X11_parts_153 (k46 : Int32 → Int32 → Int32 → Int32 → Int64 → Int32 → Int32 → Int32 → Mem → Option (Int32 × Mem)) (v1 : Int32) (v2 : Int32) (v3 : Int32) (v4 : Int32) (v5 : Int64) (v8 : Int32) (v9 : Int32) (v10 : Int32) (s0 : Int32) (s1 : Int32) (S : Mem) : Option (Int32 × Mem) := (f_X11_parts_156 k46 v1 v2 v3 v4 v5 (s1 + s0) v8 v9 v10 S)
set_option maxRecDepth 20000 in
theorem t_X11_parts_153 {X : MC} {Γ : GG} (C : CX X Γ cX11_parts 11 "TickPools" 7 205) (hr : X.2.2.2.2.2.2.2.2.1.sig.returnType = some .int) {k46 : Int32 → Int32 → Int32 → Int32 → Int64 → Int32 → Int32 → Int32 → Mem → Option (Int32 × Mem)} {q : Int32 × Mem} (hk46 : ∀ (v1 : Int32) (v2 : Int32) (v3 : Int32) (v4 : Int32) (v5 : Int64) (v7 : Int32) (v8 : Int32) (v9 : Int32) (S : Mem), k46 v1 v2 v3 v4 v5 v7 v8 v9 S = some q → ZZ X Γ 11 (QQ X Γ (some (aI q.1)) q.2) S 46 [(0, aR 1), (1, aI v1), (2, aI v2), (3, aI v3), (4, aI v4), (5, aJ v5), (7, aI v7), (8, aI v8), (9, aI v9)] []) (v1 : Int32) (v2 : Int32) (v3 : Int32) (v4 : Int32) (v5 : Int64) (v8 : Int32) (v9 : Int32) (v10 : Int32) (s0 : Int32) (s1 : Int32) (S : Mem) (hf : f_X11_parts_153 k46 v1 v2 v3 v4 v5 v8 v9 v10 s0 s1 S = some q) : ZZ X Γ 11 (QQ X Γ (some (aI q.1)) q.2) S 153 [(0, aR 1), (1, aI v1), (2, aI v2), (3, aI v3), (4, aI v4), (5, aJ v5), (8, aI v8), (9, aI v9), (10, aI v10)] [aI s0, aI s1] := by
  unfold f_X11_parts_153 at hf
  refine z_iadd C d_X11_parts_153 ?_
  refine z_istore (lv' := [(7, aI (s1 + s0)), (0, aR 1), (1, aI v1), (2, aI v2), (3, aI v3), (4, aI v4), (5, aJ v5), (8, aI v8), (9, aI v9), (10, aI v10)]) C d_X11_parts_154 (by decide) rfl ?_
  exact z_sub [1, 2, 3, 4, 5, 6, 0, 7, 8, 9] rfl (t_X11_parts_156 C hr hk46 _ _ _ _ _ _ _ _ _ _ hf)
def f_X11_parts_132 (k46 : Int32 → Int32 → Int32 → Int32 → Int64 → Int32 → Int32 → Int32 → Mem → Option (Int32 × Mem)) (v1 : Int32) (v2 : Int32) (v3 : Int32) (v4 : Int32) (v5 : Int64) (v7 : Int32) (v9 : Int32) (v10 : Int32) (s0 : Int32) (S : Mem) : Option (Int32 × Mem) := ((f_X1_bestCode S).bind fun q140 => (if q140.1 = s0 then (f_X11_parts_153 k46 v1 v2 v3 v4 v5 s0 v9 v10 0 v7 q140.2) else (f_X11_parts_153 k46 v1 v2 v3 v4 v5 s0 v9 v10 1 v7 q140.2)))
set_option maxRecDepth 20000 in
theorem t_X11_parts_132 {X : MC} {Γ : GG} (C : CX X Γ cX11_parts 11 "TickPools" 7 205) (hr : X.2.2.2.2.2.2.2.2.1.sig.returnType = some .int) {k46 : Int32 → Int32 → Int32 → Int32 → Int64 → Int32 → Int32 → Int32 → Mem → Option (Int32 × Mem)} {q : Int32 × Mem} (hk46 : ∀ (v1 : Int32) (v2 : Int32) (v3 : Int32) (v4 : Int32) (v5 : Int64) (v7 : Int32) (v8 : Int32) (v9 : Int32) (S : Mem), k46 v1 v2 v3 v4 v5 v7 v8 v9 S = some q → ZZ X Γ 11 (QQ X Γ (some (aI q.1)) q.2) S 46 [(0, aR 1), (1, aI v1), (2, aI v2), (3, aI v3), (4, aI v4), (5, aJ v5), (7, aI v7), (8, aI v8), (9, aI v9)] []) (v1 : Int32) (v2 : Int32) (v3 : Int32) (v4 : Int32) (v5 : Int64) (v7 : Int32) (v9 : Int32) (v10 : Int32) (s0 : Int32) (S : Mem) (hf : f_X11_parts_132 k46 v1 v2 v3 v4 v5 v7 v9 v10 s0 S = some q) : ZZ X Γ 11 (QQ X Γ (some (aI q.1)) q.2) S 132 [(0, aR 1), (1, aI v1), (2, aI v2), (3, aI v3), (4, aI v4), (5, aJ v5), (7, aI v7), (9, aI v9), (10, aI v10)] [aI s0] := by
  unfold f_X11_parts_132 at hf
  refine z_istore (lv' := [(8, aI s0), (0, aR 1), (1, aI v1), (2, aI v2), (3, aI v3), (4, aI v4), (5, aJ v5), (7, aI v7), (9, aI v9), (10, aI v10)]) C d_X11_parts_132 (by decide) rfl ?_
  refine z_iload (j := 7) C d_X11_parts_134 rfl ?_
  refine z_aload_n (j := 1) C d_X11_parts_136 rfl ?_
  refine zg_X11_finder C rfl tw_467 d_X11_parts_137 ?_
  obtain ⟨q140, hF, hf⟩ := bd hf
  refine z_callV1 (rest := [aI v7]) C [] rfl (by decide) rfl rfl k_X1_bestCode tw_1167 ⟨by decide, by decide⟩ (Nat.le_of_ble_eq_true rfl) d_X11_parts_140 (c_X1_bestCode C.inj hF) rfl ?_
  refine z_iload (j := 0) C d_X11_parts_143 rfl ?_
  refine z_icmp_ne (tgt := 152) C d_X11_parts_145 (by decide) hf (fun c145 hf => ?_) (fun c145 hf => ?_)
  · refine z_iconst (v := 1) C d_X11_parts_152 (by decide) ?_
    exact z_sub [1, 2, 3, 4, 5, 6, 0, 8, 9] rfl (t_X11_parts_153 C hr hk46 _ _ _ _ _ _ _ _ _ _ _ hf)
  · refine z_iconst (v := 0) C d_X11_parts_148 (by decide) ?_
    refine z_goto (tgt := 153) C d_X11_parts_149 (by decide) ?_
    exact z_sub [1, 2, 3, 4, 5, 6, 0, 8, 9] rfl (t_X11_parts_153 C hr hk46 _ _ _ _ _ _ _ _ _ _ _ hf)
def f_X11_parts_72 (k46 : Int32 → Int32 → Int32 → Int32 → Int64 → Int32 → Int32 → Int32 → Mem → Option (Int32 × Mem)) (v1 : Int32) (v2 : Int32) (v3 : Int32) (v4 : Int32) (v5 : Int64) (v7 : Int32) (v8 : Int32) (v9 : Int32) (v10 : Int32) (S : Mem) : Option (Int32 × Mem) := (if v10 ≤ 0 then (f_X11_parts_186 k46 v1 v2 v3 v4 v5 v7 v8 v9 S) else ((f_X1_forget (-v10) S).bind fun q84 => ((f_X1_search 143 v1 v2 v10 q84.2).bind fun q99 => (if (gI q99.2 14 2) = 0 then (some ((-2), q99.2)) else (if v8 = 0 then ((f_X1_bestCode q99.2).bind fun q124 => (f_X11_parts_132 k46 v1 v2 v3 v4 v5 v7 v9 v10 q124.1 q124.2)) else (f_X11_parts_132 k46 v1 v2 v3 v4 v5 v7 v9 v10 v8 q99.2))))))
set_option maxRecDepth 20000 in
theorem t_X11_parts_72 {X : MC} {Γ : GG} (C : CX X Γ cX11_parts 11 "TickPools" 7 205) (hr : X.2.2.2.2.2.2.2.2.1.sig.returnType = some .int) {k46 : Int32 → Int32 → Int32 → Int32 → Int64 → Int32 → Int32 → Int32 → Mem → Option (Int32 × Mem)} {q : Int32 × Mem} (hk46 : ∀ (v1 : Int32) (v2 : Int32) (v3 : Int32) (v4 : Int32) (v5 : Int64) (v7 : Int32) (v8 : Int32) (v9 : Int32) (S : Mem), k46 v1 v2 v3 v4 v5 v7 v8 v9 S = some q → ZZ X Γ 11 (QQ X Γ (some (aI q.1)) q.2) S 46 [(0, aR 1), (1, aI v1), (2, aI v2), (3, aI v3), (4, aI v4), (5, aJ v5), (7, aI v7), (8, aI v8), (9, aI v9)] []) (v1 : Int32) (v2 : Int32) (v3 : Int32) (v4 : Int32) (v5 : Int64) (v7 : Int32) (v8 : Int32) (v9 : Int32) (v10 : Int32) (S : Mem) (hf : f_X11_parts_72 k46 v1 v2 v3 v4 v5 v7 v8 v9 v10 S = some q) : ZZ X Γ 11 (QQ X Γ (some (aI q.1)) q.2) S 72 [(0, aR 1), (1, aI v1), (2, aI v2), (3, aI v3), (4, aI v4), (5, aJ v5), (7, aI v7), (8, aI v8), (9, aI v9), (10, aI v10)] [] := by
  unfold f_X11_parts_72 at hf
  refine z_iload (j := 9) C d_X11_parts_72 rfl ?_
  refine z_if_le (tgt := 186) C d_X11_parts_74 (by decide) hf (fun c74 hf => ?_) (fun c74 hf => ?_)
  · exact z_sub [0, 1, 2, 3, 4, 5, 6, 7, 8] rfl (t_X11_parts_186 C hr hk46 _ _ _ _ _ _ _ _ _ hf)
  · refine z_aload_n (j := 0) C d_X11_parts_77 rfl ?_
    refine zg_X11_finder C rfl tw_467 d_X11_parts_78 ?_
    refine z_iload (j := 9) C d_X11_parts_81 rfl ?_
    refine z_ineg C d_X11_parts_83 ?_
    obtain ⟨q84, hF, hf⟩ := bd hf
    refine z_callV0 (rest := []) C [aI (-v10)] rfl (by decide) rfl rfl k_X1_forget tw_1125 ⟨by decide, by decide⟩ (Nat.le_of_ble_eq_true rfl) d_X11_parts_84 (c_X1_forget C.inj hF) rfl ?_
    refine z_aload_n (j := 0) C d_X11_parts_87 rfl ?_
    refine zg_X11_finder C rfl tw_467 d_X11_parts_88 ?_
    refine z_aload_n (j := 0) C d_X11_parts_91 rfl ?_
    refine zg_X11_spare C rfl tw_462 d_X11_parts_92 ?_
    refine z_iload_n (j := 1) C d_X11_parts_95 rfl ?_
    refine z_iload_n (j := 2) C d_X11_parts_96 rfl ?_
    refine z_iload (j := 9) C d_X11_parts_97 rfl ?_
    obtain ⟨q99, hF, hf⟩ := bd hf
    refine z_callV0 (rest := []) C [aR 143, aI v1, aI v2, aI v10] rfl (by decide) rfl rfl k_X1_search tw_1129 ⟨by decide, by decide⟩ (Nat.le_of_ble_eq_true rfl) d_X11_parts_99 (c_X1_search C.inj hF) rfl ?_
    refine z_aload_n (j := 0) C d_X11_parts_102 rfl ?_
    refine zg_X11_finder C rfl tw_467 d_X11_parts_103 ?_
    refine zg_X1_bestLength C rfl tw_434 d_X11_parts_106 ?_
    refine z_if_ne (tgt := 115) C d_X11_parts_109 (by decide) hf (fun c109 hf => ?_) (fun c109 hf => ?_)
    · refine z_iload (j := 7) C d_X11_parts_115 rfl ?_
      refine z_if_ne (tgt := 130) C d_X11_parts_117 (by decide) hf (fun c117 hf => ?_) (fun c117 hf => ?_)
      · refine z_iload (j := 7) C d_X11_parts_130 rfl ?_
        exact z_sub [0, 1, 2, 3, 4, 5, 6, 8, 9] rfl (t_X11_parts_132 C hr hk46 _ _ _ _ _ _ _ _ _ _ hf)
      · refine z_aload_n (j := 0) C d_X11_parts_120 rfl ?_
        refine zg_X11_finder C rfl tw_467 d_X11_parts_121 ?_
        obtain ⟨q124, hF, hf⟩ := bd hf
        refine z_callV1 (rest := []) C [] rfl (by decide) rfl rfl k_X1_bestCode tw_1167 ⟨by decide, by decide⟩ (Nat.le_of_ble_eq_true rfl) d_X11_parts_124 (c_X1_bestCode C.inj hF) rfl ?_
        refine z_goto (tgt := 132) C d_X11_parts_127 (by decide) ?_
        exact z_sub [0, 1, 2, 3, 4, 5, 6, 8, 9] rfl (t_X11_parts_132 C hr hk46 _ _ _ _ _ _ _ _ _ _ hf)
    · refine z_bipush (v := (-2)) C d_X11_parts_112 (by decide) ?_
      exact r_i C hr rfl d_X11_parts_114 hf
def f_X11_parts_205 (s0 : Int32) (S : Mem) : Option (Int32 × Mem) := (some (s0, S))
set_option maxRecDepth 20000 in
theorem t_X11_parts_205 {X : MC} {Γ : GG} (C : CX X Γ cX11_parts 11 "TickPools" 7 205) (hr : X.2.2.2.2.2.2.2.2.1.sig.returnType = some .int) {q : Int32 × Mem} (s0 : Int32) (S : Mem) (hf : f_X11_parts_205 s0 S = some q) : ZZ X Γ 11 (QQ X Γ (some (aI q.1)) q.2) S 205 [] [aI s0] := by
  unfold f_X11_parts_205 at hf
  exact r_i C hr rfl d_X11_parts_205 hf
def f_X11_parts_46B (k46 : Int32 → Int32 → Int32 → Int32 → Int64 → Int32 → Int32 → Int32 → Mem → Option (Int32 × Mem)) (v1 : Int32) (v2 : Int32) (v3 : Int32) (v4 : Int32) (v5 : Int64) (v7 : Int32) (v8 : Int32) (v9 : Int32) (S : Mem) : Option (Int32 × Mem) := (if 10 < v9 then (if v4 = 0 then (f_X11_parts_205  ((v5 : Int64).toInt32) S) else (f_X11_parts_205  v7 S)) else (f_X11_parts_72 k46 v1 v2 v3 v4 v5 v7 v8 v9 (((v3 * v9) / 10) - ((v3 * (v9 - 1)) / 10)) S))
set_option maxRecDepth 20000 in
theorem t_X11_parts_46B {X : MC} {Γ : GG} (C : CX X Γ cX11_parts 11 "TickPools" 7 205) (hr : X.2.2.2.2.2.2.2.2.1.sig.returnType = some .int) {k46 : Int32 → Int32 → Int32 → Int32 → Int64 → Int32 → Int32 → Int32 → Mem → Option (Int32 × Mem)} {q : Int32 × Mem} (hk46 : ∀ (v1 : Int32) (v2 : Int32) (v3 : Int32) (v4 : Int32) (v5 : Int64) (v7 : Int32) (v8 : Int32) (v9 : Int32) (S : Mem), k46 v1 v2 v3 v4 v5 v7 v8 v9 S = some q → ZZ X Γ 11 (QQ X Γ (some (aI q.1)) q.2) S 46 [(0, aR 1), (1, aI v1), (2, aI v2), (3, aI v3), (4, aI v4), (5, aJ v5), (7, aI v7), (8, aI v8), (9, aI v9)] []) (v1 : Int32) (v2 : Int32) (v3 : Int32) (v4 : Int32) (v5 : Int64) (v7 : Int32) (v8 : Int32) (v9 : Int32) (S : Mem) (hf : f_X11_parts_46B k46 v1 v2 v3 v4 v5 v7 v8 v9 S = some q) : ZZ X Γ 11 (QQ X Γ (some (aI q.1)) q.2) S 46 [(0, aR 1), (1, aI v1), (2, aI v2), (3, aI v3), (4, aI v4), (5, aJ v5), (7, aI v7), (8, aI v8), (9, aI v9)] [] := by
  unfold f_X11_parts_46B at hf
  refine z_iload (j := 8) C d_X11_parts_46 rfl ?_
  refine z_bipush (v := 10) C d_X11_parts_48 (by decide) ?_
  refine z_icmp_gt (tgt := 192) C d_X11_parts_50 (by decide) hf (fun c50 hf => ?_) (fun c50 hf => ?_)
  · refine z_iload (j := 4) C d_X11_parts_192 rfl ?_
    refine z_if_ne (tgt := 203) C d_X11_parts_194 (by decide) hf (fun c194 hf => ?_) (fun c194 hf => ?_)
    · refine z_iload (j := 6) C d_X11_parts_203 rfl ?_
      exact z_sub [] rfl (t_X11_parts_205 C hr  _ _ hf)
    · refine z_lload (j := 5) C d_X11_parts_197 rfl ?_
      refine z_l2i C d_X11_parts_199 ?_
      refine z_goto (tgt := 205) C d_X11_parts_200 (by decide) ?_
      exact z_sub [] rfl (t_X11_parts_205 C hr  _ _ hf)
  · refine z_iload_n (j := 3) C d_X11_parts_53 rfl ?_
    refine z_iload (j := 8) C d_X11_parts_54 rfl ?_
    refine z_imul C d_X11_parts_56 ?_
    refine z_bipush (v := 10) C d_X11_parts_57 (by decide) ?_
    refine z_idiv C d_X11_parts_59 (by decide) ?_
    refine z_iload_n (j := 3) C d_X11_parts_60 rfl ?_
    refine z_iload (j := 8) C d_X11_parts_61 rfl ?_
    refine z_iconst (v := 1) C d_X11_parts_63 (by decide) ?_
    refine z_isub C d_X11_parts_64 ?_
    refine z_imul C d_X11_parts_65 ?_
    refine z_bipush (v := 10) C d_X11_parts_66 (by decide) ?_
    refine z_idiv C d_X11_parts_68 (by decide) ?_
    refine z_isub C d_X11_parts_69 ?_
    refine z_istore (lv' := [(10, aI (((v3 * v9) / 10) - ((v3 * (v9 - 1)) / 10))), (0, aR 1), (1, aI v1), (2, aI v2), (3, aI v3), (4, aI v4), (5, aJ v5), (7, aI v7), (8, aI v8), (9, aI v9)]) C d_X11_parts_70 (by decide) rfl ?_
    exact z_sub [1, 2, 3, 4, 5, 6, 7, 8, 9, 0] rfl (t_X11_parts_72 C hr hk46 _ _ _ _ _ _ _ _ _ _ hf)
def f_X11_parts_46 : Nat → Int32 → Int32 → Int32 → Int32 → Int64 → Int32 → Int32 → Int32 → Mem → Option (Int32 × Mem)
  | 0 => fun _ _ _ _ _ _ _ _ _ => none
  | n + 1 => f_X11_parts_46B (f_X11_parts_46 n)
theorem t_X11_parts_46 {X : MC} {Γ : GG} (C : CX X Γ cX11_parts 11 "TickPools" 7 205) (hr : X.2.2.2.2.2.2.2.2.1.sig.returnType = some .int) {q : Int32 × Mem} : ∀ (n : Nat) (v1 : Int32) (v2 : Int32) (v3 : Int32) (v4 : Int32) (v5 : Int64) (v7 : Int32) (v8 : Int32) (v9 : Int32) (S : Mem) (hf : f_X11_parts_46 n v1 v2 v3 v4 v5 v7 v8 v9 S = some q), ZZ X Γ 11 (QQ X Γ (some (aI q.1)) q.2) S 46 [(0, aR 1), (1, aI v1), (2, aI v2), (3, aI v3), (4, aI v4), (5, aJ v5), (7, aI v7), (8, aI v8), (9, aI v9)] []
  | 0, _, _, _, _, _, _, _, _, _, hf => nomatch (show (none : Option (Int32 × Mem)) = some q from hf)
  | n + 1, v1, v2, v3, v4, v5, v7, v8, v9, S, hf => t_X11_parts_46B C hr (t_X11_parts_46 C hr n) v1 v2 v3 v4 v5 v7 v8 v9 S hf
/-- TickPools.parts(IIII)I -/
def f_X11_parts (p1 : Int32) (p2 : Int32) (p3 : Int32) (p4 : Int32) (S : Mem) : Option (Int32 × Mem) := ((f_X11_canWander p1 p2 p3 S).bind fun q4 => (if q4.1 = 0 then (f_X11_parts_21  q4.2) else (if p4 < 0 then (f_X11_parts_21  q4.2) else (if p4 ≤ 1 then ((f_X2_copyFrom 143 78 q4.2).bind fun q31 => (f_X11_parts_46  100000 p1 p2 p3 p4 0 0 0 1 q31.2)) else (f_X11_parts_21  q4.2)))))
set_option maxRecDepth 20000 in
theorem c_X11_parts {l : Launch} {Γ : GG} (hI : Inj Γ) {p1 : Int32} {p2 : Int32} {p3 : Int32} {p4 : Int32} {S : Mem} {q : Int32 × Mem} (hf : f_X11_parts p1 p2 p3 p4 S = some q) : MM l Γ yX11_parts cX11_parts 11 (some .int) 7 205 [aR 1, aI p1, aI p2, aI p3, aI p4] S (some (aI q.1)) q.2 := by
  refine met_of hI "TickPools" rfl (by decide +kernel) (Nat.le_of_ble_eq_true rfl) (fun X hX C hr => ?_)
  unfold f_X11_parts at hf
  show ZZ X Γ 11 _ S 0 [(0, aR 1), (1, aI p1), (2, aI p2), (3, aI p3), (4, aI p4)] []
  refine z_aload_n (j := 0) C d_X11_parts_0 rfl ?_
  refine z_iload_n (j := 1) C d_X11_parts_1 rfl ?_
  refine z_iload_n (j := 2) C d_X11_parts_2 rfl ?_
  refine z_iload_n (j := 3) C d_X11_parts_3 rfl ?_
  obtain ⟨q4, hF, hf⟩ := bd hf
  refine z_callV1 (rest := []) C [aI p1, aI p2, aI p3] rfl (by decide) rfl rfl k_X11_canWander tw_1121 ⟨by decide, by decide⟩ (Nat.le_of_ble_eq_true rfl) d_X11_parts_4 (c_X11_canWander C.inj hF) rfl ?_
  refine z_if_eq (tgt := 21) C d_X11_parts_7 (by decide) hf (fun c7 hf => ?_) (fun c7 hf => ?_)
  · exact z_sub [] rfl (t_X11_parts_21 C hr  _ hf)
  · refine z_iload (j := 4) C d_X11_parts_10 rfl ?_
    refine z_if_lt (tgt := 21) C d_X11_parts_12 (by decide) hf (fun c12 hf => ?_) (fun c12 hf => ?_)
    · exact z_sub [] rfl (t_X11_parts_21 C hr  _ hf)
    · refine z_iload (j := 4) C d_X11_parts_15 rfl ?_
      refine z_iconst (v := 1) C d_X11_parts_17 (by decide) ?_
      refine z_icmp_le (tgt := 23) C d_X11_parts_18 (by decide) hf (fun c18 hf => ?_) (fun c18 hf => ?_)
      · refine z_aload_n (j := 0) C d_X11_parts_23 rfl ?_
        refine zg_X11_spare C rfl tw_462 d_X11_parts_24 ?_
        refine z_aload_n (j := 0) C d_X11_parts_27 rfl ?_
        refine zg_X11_live C rfl tw_461 d_X11_parts_28 ?_
        obtain ⟨q31, hF, hf⟩ := bd hf
        refine z_callV0 (rest := []) C [aR 78] rfl (by decide) rfl rfl k_X2_copyFrom tw_659 ⟨by decide, by decide⟩ (Nat.le_of_ble_eq_true rfl) d_X11_parts_31 (c_X2_copyFrom C.inj hF) rfl ?_
        refine z_lconst (v := 0) C d_X11_parts_34 (by decide) ?_
        refine z_lstore (lv' := [(5, aJ 0), (0, aR 1), (1, aI p1), (2, aI p2), (3, aI p3), (4, aI p4)]) C d_X11_parts_35 (by decide) rfl ?_
        refine z_iconst (v := 0) C d_X11_parts_37 (by decide) ?_
        refine z_istore (lv' := [(7, aI 0), (5, aJ 0), (0, aR 1), (1, aI p1), (2, aI p2), (3, aI p3), (4, aI p4)]) C d_X11_parts_38 (by decide) rfl ?_
        refine z_iconst (v := 0) C d_X11_parts_40 (by decide) ?_
        refine z_istore (lv' := [(8, aI 0), (7, aI 0), (5, aJ 0), (0, aR 1), (1, aI p1), (2, aI p2), (3, aI p3), (4, aI p4)]) C d_X11_parts_41 (by decide) rfl ?_
        refine z_iconst (v := 1) C d_X11_parts_43 (by decide) ?_
        refine z_istore (lv' := [(9, aI 1), (8, aI 0), (7, aI 0), (5, aJ 0), (0, aR 1), (1, aI p1), (2, aI p2), (3, aI p3), (4, aI p4)]) C d_X11_parts_44 (by decide) rfl ?_
        exact z_sub [4, 5, 6, 7, 8, 3, 2, 1, 0] rfl (t_X11_parts_46 C hr  100000 _ _ _ _ _ _ _ _ _ hf)
      · exact z_sub [] rfl (t_X11_parts_21 C hr  _ hf)
theorem d_X11_ring_0 : decode cX11_ring 0 = .ok (.aload_n 0, 1) := by decide +kernel
theorem d_X11_ring_1 : decode cX11_ring 1 = .ok (.getfield 19, 3) := by decide +kernel
theorem d_X11_ring_4 : decode cX11_ring 4 = .ok (.iload_n 1, 1) := by decide +kernel
theorem d_X11_ring_5 : decode cX11_ring 5 = .ok (.invokevirtual 125, 3) := by decide +kernel
theorem d_X11_ring_8 : decode cX11_ring 8 = .ok (.ifCond .eq 12, 3) := by decide +kernel
theorem d_X11_ring_11 : decode cX11_ring 11 = .ok (.iload_n 2, 1) := by decide +kernel
theorem d_X11_ring_12 : decode cX11_ring 12 = .ok (.ifCond .lt 8, 3) := by decide +kernel
theorem d_X11_ring_15 : decode cX11_ring 15 = .ok (.iload_n 2, 1) := by decide +kernel
theorem d_X11_ring_16 : decode cX11_ring 16 = .ok (.iconst 5, 1) := by decide +kernel
theorem d_X11_ring_17 : decode cX11_ring 17 = .ok (.if_icmp .le 5, 3) := by decide +kernel
theorem d_X11_ring_20 : decode cX11_ring 20 = .ok (.iconst (-1), 1) := by decide +kernel
theorem d_X11_ring_21 : decode cX11_ring 21 = .ok (.ireturn, 1) := by decide +kernel
theorem d_X11_ring_22 : decode cX11_ring 22 = .ok (.aload_n 0, 1) := by decide +kernel
theorem d_X11_ring_23 : decode cX11_ring 23 = .ok (.getfield 65, 3) := by decide +kernel
theorem d_X11_ring_26 : decode cX11_ring 26 = .ok (.iconst 0, 1) := by decide +kernel
theorem d_X11_ring_27 : decode cX11_ring 27 = .ok (.invokevirtual 295, 3) := by decide +kernel
theorem d_X11_ring_30 : decode cX11_ring 30 = .ok (.iconst 1, 1) := by decide +kernel
theorem d_X11_ring_31 : decode cX11_ring 31 = .ok (.istore_n 3, 1) := by decide +kernel
theorem d_X11_ring_32 : decode cX11_ring 32 = .ok (.iload_n 3, 1) := by decide +kernel
theorem d_X11_ring_33 : decode cX11_ring 33 = .ok (.sipush 10000, 3) := by decide +kernel
theorem d_X11_ring_36 : decode cX11_ring 36 = .ok (.if_icmp .gt 25, 3) := by decide +kernel
theorem d_X11_ring_39 : decode cX11_ring 39 = .ok (.aload_n 0, 1) := by decide +kernel
theorem d_X11_ring_40 : decode cX11_ring 40 = .ok (.getfield 65, 3) := by decide +kernel
theorem d_X11_ring_43 : decode cX11_ring 43 = .ok (.aload_n 0, 1) := by decide +kernel
theorem d_X11_ring_44 : decode cX11_ring 44 = .ok (.getfield 19, 3) := by decide +kernel
theorem d_X11_ring_47 : decode cX11_ring 47 = .ok (.iload_n 1, 1) := by decide +kernel
theorem d_X11_ring_48 : decode cX11_ring 48 = .ok (.iload_n 1, 1) := by decide +kernel
theorem d_X11_ring_49 : decode cX11_ring 49 = .ok (.iload_n 3, 1) := by decide +kernel
theorem d_X11_ring_50 : decode cX11_ring 50 = .ok (.invokevirtual 298, 3) := by decide +kernel
theorem d_X11_ring_53 : decode cX11_ring 53 = .ok (.iload_n 3, 1) := by decide +kernel
theorem d_X11_ring_54 : decode cX11_ring 54 = .ok (.bipush 10, 2) := by decide +kernel
theorem d_X11_ring_56 : decode cX11_ring 56 = .ok (.imul, 1) := by decide +kernel
theorem d_X11_ring_57 : decode cX11_ring 57 = .ok (.istore_n 3, 1) := by decide +kernel
theorem d_X11_ring_58 : decode cX11_ring 58 = .ok (.goto (-26), 3) := by decide +kernel
theorem d_X11_ring_61 : decode cX11_ring 61 = .ok (.aload_n 0, 1) := by decide +kernel
theorem d_X11_ring_62 : decode cX11_ring 62 = .ok (.getfield 65, 3) := by decide +kernel
theorem d_X11_ring_65 : decode cX11_ring 65 = .ok (.getfield 302, 3) := by decide +kernel
theorem d_X11_ring_68 : decode cX11_ring 68 = .ok (.ifCond .ne 6, 3) := by decide +kernel
theorem d_X11_ring_71 : decode cX11_ring 71 = .ok (.bipush (-2), 2) := by decide +kernel
theorem d_X11_ring_73 : decode cX11_ring 73 = .ok (.ireturn, 1) := by decide +kernel
theorem d_X11_ring_74 : decode cX11_ring 74 = .ok (.iload_n 2, 1) := by decide +kernel
theorem d_X11_ring_75 : decode cX11_ring 75 = .ok (.tableswitch 50 0 2 #[25, 34, 42], 25) := by decide +kernel
theorem d_X11_ring_100 : decode cX11_ring 100 = .ok (.aload_n 0, 1) := by decide +kernel
theorem d_X11_ring_101 : decode cX11_ring 101 = .ok (.getfield 65, 3) := by decide +kernel
theorem d_X11_ring_104 : decode cX11_ring 104 = .ok (.getfield 305, 3) := by decide +kernel
theorem d_X11_ring_107 : decode cX11_ring 107 = .ok (.l2i, 1) := by decide +kernel
theorem d_X11_ring_108 : decode cX11_ring 108 = .ok (.ireturn, 1) := by decide +kernel
theorem d_X11_ring_109 : decode cX11_ring 109 = .ok (.aload_n 0, 1) := by decide +kernel
theorem d_X11_ring_110 : decode cX11_ring 110 = .ok (.getfield 65, 3) := by decide +kernel
theorem d_X11_ring_113 : decode cX11_ring 113 = .ok (.getfield 318, 3) := by decide +kernel
theorem d_X11_ring_116 : decode cX11_ring 116 = .ok (.ireturn, 1) := by decide +kernel
theorem d_X11_ring_117 : decode cX11_ring 117 = .ok (.aload_n 0, 1) := by decide +kernel
theorem d_X11_ring_118 : decode cX11_ring 118 = .ok (.getfield 65, 3) := by decide +kernel
theorem d_X11_ring_121 : decode cX11_ring 121 = .ok (.getfield 302, 3) := by decide +kernel
theorem d_X11_ring_124 : decode cX11_ring 124 = .ok (.ireturn, 1) := by decide +kernel
theorem d_X11_ring_125 : decode cX11_ring 125 = .ok (.aload_n 0, 1) := by decide +kernel
theorem d_X11_ring_126 : decode cX11_ring 126 = .ok (.getfield 65, 3) := by decide +kernel
theorem d_X11_ring_129 : decode cX11_ring 129 = .ok (.iload_n 2, 1) := by decide +kernel
theorem d_X11_ring_130 : decode cX11_ring 130 = .ok (.iconst 3, 1) := by decide +kernel
theorem d_X11_ring_131 : decode cX11_ring 131 = .ok (.isub, 1) := by decide +kernel
theorem d_X11_ring_132 : decode cX11_ring 132 = .ok (.invokevirtual 308, 3) := by decide +kernel
theorem d_X11_ring_135 : decode cX11_ring 135 = .ok (.ireturn, 1) := by decide +kernel
def f_X11_ring_20 (S : Mem) : Option (Int32 × Mem) := (some ((-1), S))
set_option maxRecDepth 20000 in
theorem t_X11_ring_20 {X : MC} {Γ : GG} (C : CX X Γ cX11_ring 4 "TickPools" 7 205) (hr : X.2.2.2.2.2.2.2.2.1.sig.returnType = some .int) {q : Int32 × Mem} (S : Mem) (hf : f_X11_ring_20 S = some q) : ZZ X Γ 4 (QQ X Γ (some (aI q.1)) q.2) S 20 [] [] := by
  unfold f_X11_ring_20 at hf
  refine z_iconst (v := (-1)) C d_X11_ring_20 (by decide) ?_
  exact r_i C hr rfl d_X11_ring_21 hf
def f_X11_ring_32B (k32 : Int32 → Int32 → Int32 → Mem → Option (Int32 × Mem)) (v1 : Int32) (v2 : Int32) (v3 : Int32) (S : Mem) : Option (Int32 × Mem) := (if 10000 < v3 then (if (gI S 14 2) = 0 then (some ((-2), S)) else (if v2 = 0 then (some ((((gL S 14 0) : Int64).toInt32), S)) else (if v2 = 1 then (some ((gI S 14 1), S)) else (if v2 = 2 then (some ((gI S 14 2), S)) else ((f_X1_bestPool (v2 - 3) S).bind fun q132 => (some (q132.1, q132.2))))))) else ((f_X1_search 78 v1 v1 v3 S).bind fun q50 => (k32 v1 v2 (v3 * 10) q50.2)))
set_option maxRecDepth 20000 in
theorem t_X11_ring_32B {X : MC} {Γ : GG} (C : CX X Γ cX11_ring 4 "TickPools" 7 205) (hr : X.2.2.2.2.2.2.2.2.1.sig.returnType = some .int) {k32 : Int32 → Int32 → Int32 → Mem → Option (Int32 × Mem)} {q : Int32 × Mem} (hk32 : ∀ (v1 : Int32) (v2 : Int32) (v3 : Int32) (S : Mem), k32 v1 v2 v3 S = some q → ZZ X Γ 4 (QQ X Γ (some (aI q.1)) q.2) S 32 [(0, aR 1), (1, aI v1), (2, aI v2), (3, aI v3)] []) (v1 : Int32) (v2 : Int32) (v3 : Int32) (S : Mem) (hf : f_X11_ring_32B k32 v1 v2 v3 S = some q) : ZZ X Γ 4 (QQ X Γ (some (aI q.1)) q.2) S 32 [(0, aR 1), (1, aI v1), (2, aI v2), (3, aI v3)] [] := by
  unfold f_X11_ring_32B at hf
  refine z_iload_n (j := 3) C d_X11_ring_32 rfl ?_
  refine z_sipush (v := 10000) C d_X11_ring_33 (by decide) ?_
  refine z_icmp_gt (tgt := 61) C d_X11_ring_36 (by decide) hf (fun c36 hf => ?_) (fun c36 hf => ?_)
  · refine z_aload_n (j := 0) C d_X11_ring_61 rfl ?_
    refine zg_X11_finder C rfl tw_467 d_X11_ring_62 ?_
    refine zg_X1_bestLength C rfl tw_434 d_X11_ring_65 ?_
    refine z_if_ne (tgt := 74) C d_X11_ring_68 (by decide) hf (fun c68 hf => ?_) (fun c68 hf => ?_)
    · refine z_iload_n (j := 2) C d_X11_ring_74 rfl ?_
      by_cases c75_0 : v2 = 0
      · rw [if_pos c75_0] at hf
        refine z_tin (tgt := 100) C d_X11_ring_75 (by rw [c75_0]; decide) (by rw [c75_0]; decide) (by rw [c75_0]; rfl) (by decide) ?_
        refine z_aload_n (j := 0) C d_X11_ring_100 rfl ?_
        refine zg_X11_finder C rfl tw_467 d_X11_ring_101 ?_
        refine zg_X1_bestGain C rfl tw_430 d_X11_ring_104 ?_
        refine z_l2i C d_X11_ring_107 ?_
        exact r_i C hr rfl d_X11_ring_108 hf
      rw [if_neg c75_0] at hf
      have d75_0 := tn (n := 0) c75_0 (by decide)
      by_cases c75_1 : v2 = 1
      · rw [if_pos c75_1] at hf
        refine z_tin (tgt := 109) C d_X11_ring_75 (by rw [c75_1]; decide) (by rw [c75_1]; decide) (by rw [c75_1]; rfl) (by decide) ?_
        refine z_aload_n (j := 0) C d_X11_ring_109 rfl ?_
        refine zg_X11_finder C rfl tw_467 d_X11_ring_110 ?_
        refine zg_X1_bestAmount C rfl tw_432 d_X11_ring_113 ?_
        exact r_i C hr rfl d_X11_ring_116 hf
      rw [if_neg c75_1] at hf
      have d75_1 := tn (n := 1) c75_1 (by decide)
      by_cases c75_2 : v2 = 2
      · rw [if_pos c75_2] at hf
        refine z_tin (tgt := 117) C d_X11_ring_75 (by rw [c75_2]; decide) (by rw [c75_2]; decide) (by rw [c75_2]; rfl) (by decide) ?_
        refine z_aload_n (j := 0) C d_X11_ring_117 rfl ?_
        refine zg_X11_finder C rfl tw_467 d_X11_ring_118 ?_
        refine zg_X1_bestLength C rfl tw_434 d_X11_ring_121 ?_
        exact r_i C hr rfl d_X11_ring_124 hf
      rw [if_neg c75_2] at hf
      have d75_2 := tn (n := 2) c75_2 (by decide)
      refine z_tout (tgt := 125) C d_X11_ring_75 (by omega) (by decide) ?_
      refine z_aload_n (j := 0) C d_X11_ring_125 rfl ?_
      refine zg_X11_finder C rfl tw_467 d_X11_ring_126 ?_
      refine z_iload_n (j := 2) C d_X11_ring_129 rfl ?_
      refine z_iconst (v := 3) C d_X11_ring_130 (by decide) ?_
      refine z_isub C d_X11_ring_131 ?_
      obtain ⟨q132, hF, hf⟩ := bd hf
      refine z_callV1 (rest := []) C [aI (v2 - 3)] rfl (by decide) rfl rfl k_X1_bestPool tw_1159 ⟨by decide, by decide⟩ (Nat.le_of_ble_eq_true rfl) d_X11_ring_132 (c_X1_bestPool C.inj hF) rfl ?_
      exact r_i C hr rfl d_X11_ring_135 hf
    · refine z_bipush (v := (-2)) C d_X11_ring_71 (by decide) ?_
      exact r_i C hr rfl d_X11_ring_73 hf
  · refine z_aload_n (j := 0) C d_X11_ring_39 rfl ?_
    refine zg_X11_finder C rfl tw_467 d_X11_ring_40 ?_
    refine z_aload_n (j := 0) C d_X11_ring_43 rfl ?_
    refine zg_X11_live C rfl tw_461 d_X11_ring_44 ?_
    refine z_iload_n (j := 1) C d_X11_ring_47 rfl ?_
    refine z_iload_n (j := 1) C d_X11_ring_48 rfl ?_
    refine z_iload_n (j := 3) C d_X11_ring_49 rfl ?_
    obtain ⟨q50, hF, hf⟩ := bd hf
    refine z_callV0 (rest := []) C [aR 78, aI v1, aI v1, aI v3] rfl (by decide) rfl rfl k_X1_search tw_1129 ⟨by decide, by decide⟩ (Nat.le_of_ble_eq_true rfl) d_X11_ring_50 (c_X1_search C.inj hF) rfl ?_
    refine z_iload_n (j := 3) C d_X11_ring_53 rfl ?_
    refine z_bipush (v := 10) C d_X11_ring_54 (by decide) ?_
    refine z_imul C d_X11_ring_56 ?_
    refine z_istore_n (lv' := [(3, aI (v3 * 10)), (0, aR 1), (1, aI v1), (2, aI v2)]) C d_X11_ring_57 (by decide) rfl ?_
    refine z_goto (tgt := 32) C d_X11_ring_58 (by decide) ?_
    exact z_sub [1, 2, 3, 0] rfl (hk32 _ _ _ _ hf)
def f_X11_ring_32 : Nat → Int32 → Int32 → Int32 → Mem → Option (Int32 × Mem)
  | 0 => fun _ _ _ _ => none
  | n + 1 => f_X11_ring_32B (f_X11_ring_32 n)
theorem t_X11_ring_32 {X : MC} {Γ : GG} (C : CX X Γ cX11_ring 4 "TickPools" 7 205) (hr : X.2.2.2.2.2.2.2.2.1.sig.returnType = some .int) {q : Int32 × Mem} : ∀ (n : Nat) (v1 : Int32) (v2 : Int32) (v3 : Int32) (S : Mem) (hf : f_X11_ring_32 n v1 v2 v3 S = some q), ZZ X Γ 4 (QQ X Γ (some (aI q.1)) q.2) S 32 [(0, aR 1), (1, aI v1), (2, aI v2), (3, aI v3)] []
  | 0, _, _, _, _, hf => nomatch (show (none : Option (Int32 × Mem)) = some q from hf)
  | n + 1, v1, v2, v3, S, hf => t_X11_ring_32B C hr (t_X11_ring_32 C hr n) v1 v2 v3 S hf
/-- TickPools.ring(II)I -/
def f_X11_ring (p1 : Int32) (p2 : Int32) (S : Mem) : Option (Int32 × Mem) := ((f_X2_hasThing 78 p1 S).bind fun q5 => (if q5.1 = 0 then (f_X11_ring_20  q5.2) else (if p2 < 0 then (f_X11_ring_20  q5.2) else (if p2 ≤ 5 then ((f_X1_forget 0 q5.2).bind fun q27 => (f_X11_ring_32  100000 p1 p2 1 q27.2)) else (f_X11_ring_20  q5.2)))))
set_option maxRecDepth 20000 in
theorem c_X11_ring {l : Launch} {Γ : GG} (hI : Inj Γ) {p1 : Int32} {p2 : Int32} {S : Mem} {q : Int32 × Mem} (hf : f_X11_ring p1 p2 S = some q) : MM l Γ yX11_ring cX11_ring 4 (some .int) 7 205 [aR 1, aI p1, aI p2] S (some (aI q.1)) q.2 := by
  refine met_of hI "TickPools" rfl (by decide +kernel) (Nat.le_of_ble_eq_true rfl) (fun X hX C hr => ?_)
  unfold f_X11_ring at hf
  show ZZ X Γ 4 _ S 0 [(0, aR 1), (1, aI p1), (2, aI p2)] []
  refine z_aload_n (j := 0) C d_X11_ring_0 rfl ?_
  refine zg_X11_live C rfl tw_461 d_X11_ring_1 ?_
  refine z_iload_n (j := 1) C d_X11_ring_4 rfl ?_
  obtain ⟨q5, hF, hf⟩ := bd hf
  refine z_callV1 (rest := []) C [aI p1] rfl (by decide) rfl rfl k_X2_hasThing tw_1015 ⟨by decide, by decide⟩ (Nat.le_of_ble_eq_true rfl) d_X11_ring_5 (c_X2_hasThing C.inj hF) rfl ?_
  refine z_if_eq (tgt := 20) C d_X11_ring_8 (by decide) hf (fun c8 hf => ?_) (fun c8 hf => ?_)
  · exact z_sub [] rfl (t_X11_ring_20 C hr  _ hf)
  · refine z_iload_n (j := 2) C d_X11_ring_11 rfl ?_
    refine z_if_lt (tgt := 20) C d_X11_ring_12 (by decide) hf (fun c12 hf => ?_) (fun c12 hf => ?_)
    · exact z_sub [] rfl (t_X11_ring_20 C hr  _ hf)
    · refine z_iload_n (j := 2) C d_X11_ring_15 rfl ?_
      refine z_iconst (v := 5) C d_X11_ring_16 (by decide) ?_
      refine z_icmp_le (tgt := 22) C d_X11_ring_17 (by decide) hf (fun c17 hf => ?_) (fun c17 hf => ?_)
      · refine z_aload_n (j := 0) C d_X11_ring_22 rfl ?_
        refine zg_X11_finder C rfl tw_467 d_X11_ring_23 ?_
        refine z_iconst (v := 0) C d_X11_ring_26 (by decide) ?_
        obtain ⟨q27, hF, hf⟩ := bd hf
        refine z_callV0 (rest := []) C [aI 0] rfl (by decide) rfl rfl k_X1_forget tw_1125 ⟨by decide, by decide⟩ (Nat.le_of_ble_eq_true rfl) d_X11_ring_27 (c_X1_forget C.inj hF) rfl ?_
        refine z_iconst (v := 1) C d_X11_ring_30 (by decide) ?_
        refine z_istore_n (lv' := [(3, aI 1), (0, aR 1), (1, aI p1), (2, aI p2)]) C d_X11_ring_31 (by decide) rfl ?_
        exact z_sub [1, 2, 3, 0] rfl (t_X11_ring_32 C hr  100000 _ _ _ _ hf)
      · exact z_sub [] rfl (t_X11_ring_20 C hr  _ hf)
theorem d_X11_total_0 : decode cX11_total 0 = .ok (.aload_n 0, 1) := by decide +kernel
theorem d_X11_total_1 : decode cX11_total 1 = .ok (.getfield 19, 3) := by decide +kernel
theorem d_X11_total_4 : decode cX11_total 4 = .ok (.iload_n 1, 1) := by decide +kernel
theorem d_X11_total_5 : decode cX11_total 5 = .ok (.invokevirtual 125, 3) := by decide +kernel
theorem d_X11_total_8 : decode cX11_total 8 = .ok (.ifCond .eq 14, 3) := by decide +kernel
theorem d_X11_total_11 : decode cX11_total 11 = .ok (.aload_n 0, 1) := by decide +kernel
theorem d_X11_total_12 : decode cX11_total 12 = .ok (.getfield 19, 3) := by decide +kernel
theorem d_X11_total_15 : decode cX11_total 15 = .ok (.iload_n 1, 1) := by decide +kernel
theorem d_X11_total_16 : decode cX11_total 16 = .ok (.invokevirtual 321, 3) := by decide +kernel
theorem d_X11_total_19 : decode cX11_total 19 = .ok (.goto 4, 3) := by decide +kernel
theorem d_X11_total_22 : decode cX11_total 22 = .ok (.iconst (-1), 1) := by decide +kernel
theorem d_X11_total_23 : decode cX11_total 23 = .ok (.ireturn, 1) := by decide +kernel
def f_X11_total_23 (s0 : Int32) (S : Mem) : Option (Int32 × Mem) := (some (s0, S))
set_option maxRecDepth 20000 in
theorem t_X11_total_23 {X : MC} {Γ : GG} (C : CX X Γ cX11_total 2 "TickPools" 3 65) (hr : X.2.2.2.2.2.2.2.2.1.sig.returnType = some .int) {q : Int32 × Mem} (s0 : Int32) (S : Mem) (hf : f_X11_total_23 s0 S = some q) : ZZ X Γ 2 (QQ X Γ (some (aI q.1)) q.2) S 23 [] [aI s0] := by
  unfold f_X11_total_23 at hf
  exact r_i C hr rfl d_X11_total_23 hf
/-- TickPools.total(I)I -/
def f_X11_total (p1 : Int32) (S : Mem) : Option (Int32 × Mem) := ((f_X2_hasThing 78 p1 S).bind fun q5 => (if q5.1 = 0 then (f_X11_total_23  (-1) q5.2) else ((f_X2_allOf 78 p1 q5.2).bind fun q16 => (f_X11_total_23  q16.1 q16.2))))
set_option maxRecDepth 20000 in
theorem c_X11_total {l : Launch} {Γ : GG} (hI : Inj Γ) {p1 : Int32} {S : Mem} {q : Int32 × Mem} (hf : f_X11_total p1 S = some q) : MM l Γ yX11_total cX11_total 2 (some .int) 3 65 [aR 1, aI p1] S (some (aI q.1)) q.2 := by
  refine met_of hI "TickPools" rfl (by decide +kernel) (Nat.le_of_ble_eq_true rfl) (fun X hX C hr => ?_)
  unfold f_X11_total at hf
  show ZZ X Γ 2 _ S 0 [(0, aR 1), (1, aI p1)] []
  refine z_aload_n (j := 0) C d_X11_total_0 rfl ?_
  refine zg_X11_live C rfl tw_461 d_X11_total_1 ?_
  refine z_iload_n (j := 1) C d_X11_total_4 rfl ?_
  obtain ⟨q5, hF, hf⟩ := bd hf
  refine z_callV1 (rest := []) C [aI p1] rfl (by decide) rfl rfl k_X2_hasThing tw_1015 ⟨by decide, by decide⟩ (Nat.le_of_ble_eq_true rfl) d_X11_total_5 (c_X2_hasThing C.inj hF) rfl ?_
  refine z_if_eq (tgt := 22) C d_X11_total_8 (by decide) hf (fun c8 hf => ?_) (fun c8 hf => ?_)
  · refine z_iconst (v := (-1)) C d_X11_total_22 (by decide) ?_
    exact z_sub [] rfl (t_X11_total_23 C hr  _ _ hf)
  · refine z_aload_n (j := 0) C d_X11_total_11 rfl ?_
    refine zg_X11_live C rfl tw_461 d_X11_total_12 ?_
    refine z_iload_n (j := 1) C d_X11_total_15 rfl ?_
    obtain ⟨q16, hF, hf⟩ := bd hf
    refine z_callV1 (rest := []) C [aI p1] rfl (by decide) rfl rfl k_X2_allOf tw_1183 ⟨by decide, by decide⟩ (Nat.le_of_ble_eq_true rfl) d_X11_total_16 (c_X2_allOf C.inj hF) rfl ?_
    refine z_goto (tgt := 23) C d_X11_total_19 (by decide) ?_
    exact z_sub [] rfl (t_X11_total_23 C hr  _ _ hf)
theorem d_X11_count_0 : decode cX11_count 0 = .ok (.iload_n 1, 1) := by decide +kernel
theorem d_X11_count_1 : decode cX11_count 1 = .ok (.tableswitch 99 0 6 #[43, 51, 59, 67, 75, 83, 91], 43) := by decide +kernel
theorem d_X11_count_44 : decode cX11_count 44 = .ok (.aload_n 0, 1) := by decide +kernel
theorem d_X11_count_45 : decode cX11_count 45 = .ok (.getfield 19, 3) := by decide +kernel
theorem d_X11_count_48 : decode cX11_count 48 = .ok (.getfield 260, 3) := by decide +kernel
theorem d_X11_count_51 : decode cX11_count 51 = .ok (.ireturn, 1) := by decide +kernel
theorem d_X11_count_52 : decode cX11_count 52 = .ok (.aload_n 0, 1) := by decide +kernel
theorem d_X11_count_53 : decode cX11_count 53 = .ok (.getfield 19, 3) := by decide +kernel
theorem d_X11_count_56 : decode cX11_count 56 = .ok (.getfield 324, 3) := by decide +kernel
theorem d_X11_count_59 : decode cX11_count 59 = .ok (.ireturn, 1) := by decide +kernel
theorem d_X11_count_60 : decode cX11_count 60 = .ok (.aload_n 0, 1) := by decide +kernel
theorem d_X11_count_61 : decode cX11_count 61 = .ok (.getfield 19, 3) := by decide +kernel
theorem d_X11_count_64 : decode cX11_count 64 = .ok (.getfield 91, 3) := by decide +kernel
theorem d_X11_count_67 : decode cX11_count 67 = .ok (.ireturn, 1) := by decide +kernel
theorem d_X11_count_68 : decode cX11_count 68 = .ok (.aload_n 0, 1) := by decide +kernel
theorem d_X11_count_69 : decode cX11_count 69 = .ok (.getfield 19, 3) := by decide +kernel
theorem d_X11_count_72 : decode cX11_count 72 = .ok (.getfield 219, 3) := by decide +kernel
theorem d_X11_count_75 : decode cX11_count 75 = .ok (.ireturn, 1) := by decide +kernel
theorem d_X11_count_76 : decode cX11_count 76 = .ok (.aload_n 0, 1) := by decide +kernel
theorem d_X11_count_77 : decode cX11_count 77 = .ok (.getfield 19, 3) := by decide +kernel
theorem d_X11_count_80 : decode cX11_count 80 = .ok (.getfield 263, 3) := by decide +kernel
theorem d_X11_count_83 : decode cX11_count 83 = .ok (.ireturn, 1) := by decide +kernel
theorem d_X11_count_84 : decode cX11_count 84 = .ok (.aload_n 0, 1) := by decide +kernel
theorem d_X11_count_85 : decode cX11_count 85 = .ok (.getfield 19, 3) := by decide +kernel
theorem d_X11_count_88 : decode cX11_count 88 = .ok (.getfield 327, 3) := by decide +kernel
theorem d_X11_count_91 : decode cX11_count 91 = .ok (.ireturn, 1) := by decide +kernel
theorem d_X11_count_92 : decode cX11_count 92 = .ok (.aload_n 0, 1) := by decide +kernel
theorem d_X11_count_93 : decode cX11_count 93 = .ok (.getfield 10, 3) := by decide +kernel
theorem d_X11_count_96 : decode cX11_count 96 = .ok (.getfield 77, 3) := by decide +kernel
theorem d_X11_count_99 : decode cX11_count 99 = .ok (.ireturn, 1) := by decide +kernel
theorem d_X11_count_100 : decode cX11_count 100 = .ok (.iconst (-1), 1) := by decide +kernel
theorem d_X11_count_101 : decode cX11_count 101 = .ok (.ireturn, 1) := by decide +kernel
/-- TickPools.count(I)I -/
def f_X11_count (p1 : Int32) (S : Mem) : Option (Int32 × Mem) := (if p1 = 0 then (some ((gI S 78 0), S)) else (if p1 = 1 then (some ((gI S 78 1), S)) else (if p1 = 2 then (some ((gI S 78 2), S)) else (if p1 = 3 then (some ((gI S 78 3), S)) else (if p1 = 4 then (some ((gI S 78 4), S)) else (if p1 = 5 then (some ((gI S 78 5), S)) else (if p1 = 6 then (some ((gI S 2 0), S)) else (some ((-1), S)))))))))
set_option maxRecDepth 20000 in
theorem c_X11_count {l : Launch} {Γ : GG} (hI : Inj Γ) {p1 : Int32} {S : Mem} {q : Int32 × Mem} (hf : f_X11_count p1 S = some q) : MM l Γ yX11_count cX11_count 2 (some .int) 0 0 [aR 1, aI p1] S (some (aI q.1)) q.2 := by
  refine met_of hI "TickPools" rfl (by decide +kernel) (Nat.le_of_ble_eq_true rfl) (fun X hX C hr => ?_)
  unfold f_X11_count at hf
  show ZZ X Γ 2 _ S 0 [(0, aR 1), (1, aI p1)] []
  refine z_iload_n (j := 1) C d_X11_count_0 rfl ?_
  by_cases c1_0 : p1 = 0
  · rw [if_pos c1_0] at hf
    refine z_tin (tgt := 44) C d_X11_count_1 (by rw [c1_0]; decide) (by rw [c1_0]; decide) (by rw [c1_0]; rfl) (by decide) ?_
    refine z_aload_n (j := 0) C d_X11_count_44 rfl ?_
    refine zg_X11_live C rfl tw_461 d_X11_count_45 ?_
    refine zg_X2_things C rfl tw_192 d_X11_count_48 ?_
    exact r_i C hr rfl d_X11_count_51 hf
  rw [if_neg c1_0] at hf
  have d1_0 := tn (n := 0) c1_0 (by decide)
  by_cases c1_1 : p1 = 1
  · rw [if_pos c1_1] at hf
    refine z_tin (tgt := 52) C d_X11_count_1 (by rw [c1_1]; decide) (by rw [c1_1]; decide) (by rw [c1_1]; rfl) (by decide) ?_
    refine z_aload_n (j := 0) C d_X11_count_52 rfl ?_
    refine zg_X11_live C rfl tw_461 d_X11_count_53 ?_
    refine zg_X2_people C rfl tw_195 d_X11_count_56 ?_
    exact r_i C hr rfl d_X11_count_59 hf
  rw [if_neg c1_1] at hf
  have d1_1 := tn (n := 1) c1_1 (by decide)
  by_cases c1_2 : p1 = 2
  · rw [if_pos c1_2] at hf
    refine z_tin (tgt := 60) C d_X11_count_1 (by rw [c1_2]; decide) (by rw [c1_2]; decide) (by rw [c1_2]; rfl) (by decide) ?_
    refine z_aload_n (j := 0) C d_X11_count_60 rfl ?_
    refine zg_X11_live C rfl tw_461 d_X11_count_61 ?_
    refine zg_X2_pools C rfl tw_198 d_X11_count_64 ?_
    exact r_i C hr rfl d_X11_count_67 hf
  rw [if_neg c1_2] at hf
  have d1_2 := tn (n := 2) c1_2 (by decide)
  by_cases c1_3 : p1 = 3
  · rw [if_pos c1_3] at hf
    refine z_tin (tgt := 68) C d_X11_count_1 (by rw [c1_3]; decide) (by rw [c1_3]; decide) (by rw [c1_3]; rfl) (by decide) ?_
    refine z_aload_n (j := 0) C d_X11_count_68 rfl ?_
    refine zg_X11_live C rfl tw_461 d_X11_count_69 ?_
    refine zg_X2_stakes C rfl tw_201 d_X11_count_72 ?_
    exact r_i C hr rfl d_X11_count_75 hf
  rw [if_neg c1_3] at hf
  have d1_3 := tn (n := 3) c1_3 (by decide)
  by_cases c1_4 : p1 = 4
  · rw [if_pos c1_4] at hf
    refine z_tin (tgt := 76) C d_X11_count_1 (by rw [c1_4]; decide) (by rw [c1_4]; decide) (by rw [c1_4]; rfl) (by decide) ?_
    refine z_aload_n (j := 0) C d_X11_count_76 rfl ?_
    refine zg_X11_live C rfl tw_461 d_X11_count_77 ?_
    refine zg_X2_time C rfl tw_204 d_X11_count_80 ?_
    exact r_i C hr rfl d_X11_count_83 hf
  rw [if_neg c1_4] at hf
  have d1_4 := tn (n := 4) c1_4 (by decide)
  by_cases c1_5 : p1 = 5
  · rw [if_pos c1_5] at hf
    refine z_tin (tgt := 84) C d_X11_count_1 (by rw [c1_5]; decide) (by rw [c1_5]; decide) (by rw [c1_5]; rfl) (by decide) ?_
    refine z_aload_n (j := 0) C d_X11_count_84 rfl ?_
    refine zg_X11_live C rfl tw_461 d_X11_count_85 ?_
    refine zg_X2_crossed C rfl tw_207 d_X11_count_88 ?_
    exact r_i C hr rfl d_X11_count_91 hf
  rw [if_neg c1_5] at hf
  have d1_5 := tn (n := 5) c1_5 (by decide)
  by_cases c1_6 : p1 = 6
  · rw [if_pos c1_6] at hf
    refine z_tin (tgt := 92) C d_X11_count_1 (by rw [c1_6]; decide) (by rw [c1_6]; decide) (by rw [c1_6]; rfl) (by decide) ?_
    refine z_aload_n (j := 0) C d_X11_count_92 rfl ?_
    refine zg_X11_tape C rfl tw_460 d_X11_count_93 ?_
    refine zg_X9_length C rfl tw_34 d_X11_count_96 ?_
    exact r_i C hr rfl d_X11_count_99 hf
  rw [if_neg c1_6] at hf
  have d1_6 := tn (n := 6) c1_6 (by decide)
  refine z_tout (tgt := 100) C d_X11_count_1 (by omega) (by decide) ?_
  refine z_iconst (v := (-1)) C d_X11_count_100 (by decide) ?_
  exact r_i C hr rfl d_X11_count_101 hf
theorem d_X12_rootOfNumber_0 : decode cX12_rootOfNumber 0 = .ok (.lconst 0, 1) := by decide +kernel
theorem d_X12_rootOfNumber_1 : decode cX12_rootOfNumber 1 = .ok (.lstore_n 2, 1) := by decide +kernel
theorem d_X12_rootOfNumber_2 : decode cX12_rootOfNumber 2 = .ok (.ldc2_w 114, 3) := by decide +kernel
theorem d_X12_rootOfNumber_5 : decode cX12_rootOfNumber 5 = .ok (.lstore 4, 2) := by decide +kernel
theorem d_X12_rootOfNumber_7 : decode cX12_rootOfNumber 7 = .ok (.lload 4, 2) := by decide +kernel
theorem d_X12_rootOfNumber_9 : decode cX12_rootOfNumber 9 = .ok (.lconst 0, 1) := by decide +kernel
theorem d_X12_rootOfNumber_10 : decode cX12_rootOfNumber 10 = .ok (.lcmp, 1) := by decide +kernel
theorem d_X12_rootOfNumber_11 : decode cX12_rootOfNumber 11 = .ok (.ifCond .le 31, 3) := by decide +kernel
theorem d_X12_rootOfNumber_14 : decode cX12_rootOfNumber 14 = .ok (.lload_n 2, 1) := by decide +kernel
theorem d_X12_rootOfNumber_15 : decode cX12_rootOfNumber 15 = .ok (.lload 4, 2) := by decide +kernel
theorem d_X12_rootOfNumber_17 : decode cX12_rootOfNumber 17 = .ok (.lor, 1) := by decide +kernel
theorem d_X12_rootOfNumber_18 : decode cX12_rootOfNumber 18 = .ok (.lload_n 2, 1) := by decide +kernel
theorem d_X12_rootOfNumber_19 : decode cX12_rootOfNumber 19 = .ok (.lload 4, 2) := by decide +kernel
theorem d_X12_rootOfNumber_21 : decode cX12_rootOfNumber 21 = .ok (.lor, 1) := by decide +kernel
theorem d_X12_rootOfNumber_22 : decode cX12_rootOfNumber 22 = .ok (.lmul, 1) := by decide +kernel
theorem d_X12_rootOfNumber_23 : decode cX12_rootOfNumber 23 = .ok (.lload_n 0, 1) := by decide +kernel
theorem d_X12_rootOfNumber_24 : decode cX12_rootOfNumber 24 = .ok (.lcmp, 1) := by decide +kernel
theorem d_X12_rootOfNumber_25 : decode cX12_rootOfNumber 25 = .ok (.ifCond .gt 8, 3) := by decide +kernel
theorem d_X12_rootOfNumber_28 : decode cX12_rootOfNumber 28 = .ok (.lload_n 2, 1) := by decide +kernel
theorem d_X12_rootOfNumber_29 : decode cX12_rootOfNumber 29 = .ok (.lload 4, 2) := by decide +kernel
theorem d_X12_rootOfNumber_31 : decode cX12_rootOfNumber 31 = .ok (.lor, 1) := by decide +kernel
theorem d_X12_rootOfNumber_32 : decode cX12_rootOfNumber 32 = .ok (.lstore_n 2, 1) := by decide +kernel
theorem d_X12_rootOfNumber_33 : decode cX12_rootOfNumber 33 = .ok (.lload 4, 2) := by decide +kernel
theorem d_X12_rootOfNumber_35 : decode cX12_rootOfNumber 35 = .ok (.iconst 1, 1) := by decide +kernel
theorem d_X12_rootOfNumber_36 : decode cX12_rootOfNumber 36 = .ok (.lshr, 1) := by decide +kernel
theorem d_X12_rootOfNumber_37 : decode cX12_rootOfNumber 37 = .ok (.lstore 4, 2) := by decide +kernel
theorem d_X12_rootOfNumber_39 : decode cX12_rootOfNumber 39 = .ok (.goto (-32), 3) := by decide +kernel
theorem d_X12_rootOfNumber_42 : decode cX12_rootOfNumber 42 = .ok (.lload_n 2, 1) := by decide +kernel
theorem d_X12_rootOfNumber_43 : decode cX12_rootOfNumber 43 = .ok (.lreturn, 1) := by decide +kernel
def f_X12_rootOfNumber_33 (k7 : Int64 → Int64 → Int64 → Mem → Option (Int64 × Mem)) (v0 : Int64) (v2 : Int64) (v4 : Int64) (S : Mem) : Option (Int64 × Mem) := (k7 v0 v2 (v4 >>> ((1 : Int32).toInt64 &&& 63)) S)
set_option maxRecDepth 20000 in
theorem t_X12_rootOfNumber_33 {X : MC} {Γ : GG} (C : CX X Γ cX12_rootOfNumber 6 "TickPoolsModel" 0 0) (hr : X.2.2.2.2.2.2.2.2.1.sig.returnType = some .long) {k7 : Int64 → Int64 → Int64 → Mem → Option (Int64 × Mem)} {q : Int64 × Mem} (hk7 : ∀ (v0 : Int64) (v2 : Int64) (v4 : Int64) (S : Mem), k7 v0 v2 v4 S = some q → ZZ X Γ 6 (QQ X Γ (some (aJ q.1)) q.2) S 7 [(0, aJ v0), (2, aJ v2), (4, aJ v4)] []) (v0 : Int64) (v2 : Int64) (v4 : Int64) (S : Mem) (hf : f_X12_rootOfNumber_33 k7 v0 v2 v4 S = some q) : ZZ X Γ 6 (QQ X Γ (some (aJ q.1)) q.2) S 33 [(0, aJ v0), (2, aJ v2), (4, aJ v4)] [] := by
  unfold f_X12_rootOfNumber_33 at hf
  refine z_lload (j := 2) C d_X12_rootOfNumber_33 rfl ?_
  refine z_iconst (v := 1) C d_X12_rootOfNumber_35 (by decide) ?_
  refine z_lshr C d_X12_rootOfNumber_36 ?_
  refine z_lstore (lv' := [(4, aJ (v4 >>> ((1 : Int32).toInt64 &&& 63))), (0, aJ v0), (2, aJ v2)]) C d_X12_rootOfNumber_37 (by decide) rfl ?_
  refine z_goto (tgt := 7) C d_X12_rootOfNumber_39 (by decide) ?_
  exact z_sub [1, 2, 0] rfl (hk7 _ _ _ _ hf)
def f_X12_rootOfNumber_7B (k7 : Int64 → Int64 → Int64 → Mem → Option (Int64 × Mem)) (v0 : Int64) (v2 : Int64) (v4 : Int64) (S : Mem) : Option (Int64 × Mem) := (if v4 ≤ 0 then (some (v2, S)) else (if v0 < ((v2 ||| v4) * (v2 ||| v4)) then (f_X12_rootOfNumber_33 k7 v0 v2 v4 S) else (f_X12_rootOfNumber_33 k7 v0 (v2 ||| v4) v4 S)))
set_option maxRecDepth 20000 in
theorem t_X12_rootOfNumber_7B {X : MC} {Γ : GG} (C : CX X Γ cX12_rootOfNumber 6 "TickPoolsModel" 0 0) (hr : X.2.2.2.2.2.2.2.2.1.sig.returnType = some .long) {k7 : Int64 → Int64 → Int64 → Mem → Option (Int64 × Mem)} {q : Int64 × Mem} (hk7 : ∀ (v0 : Int64) (v2 : Int64) (v4 : Int64) (S : Mem), k7 v0 v2 v4 S = some q → ZZ X Γ 6 (QQ X Γ (some (aJ q.1)) q.2) S 7 [(0, aJ v0), (2, aJ v2), (4, aJ v4)] []) (v0 : Int64) (v2 : Int64) (v4 : Int64) (S : Mem) (hf : f_X12_rootOfNumber_7B k7 v0 v2 v4 S = some q) : ZZ X Γ 6 (QQ X Γ (some (aJ q.1)) q.2) S 7 [(0, aJ v0), (2, aJ v2), (4, aJ v4)] [] := by
  unfold f_X12_rootOfNumber_7B at hf
  refine z_lload (j := 2) C d_X12_rootOfNumber_7 rfl ?_
  refine z_lconst (v := 0) C d_X12_rootOfNumber_9 (by decide) ?_
  refine z_lle (tgt := 42) C d_X12_rootOfNumber_10 d_X12_rootOfNumber_11 (by decide) hf (fun c10 hf => ?_) (fun c10 hf => ?_)
  · refine z_lload_n (j := 1) C d_X12_rootOfNumber_42 rfl ?_
    exact r_l C hr d_X12_rootOfNumber_43 hf
  · refine z_lload_n (j := 1) C d_X12_rootOfNumber_14 rfl ?_
    refine z_lload (j := 2) C d_X12_rootOfNumber_15 rfl ?_
    refine z_lor C d_X12_rootOfNumber_17 ?_
    refine z_lload_n (j := 1) C d_X12_rootOfNumber_18 rfl ?_
    refine z_lload (j := 2) C d_X12_rootOfNumber_19 rfl ?_
    refine z_lor C d_X12_rootOfNumber_21 ?_
    refine z_lmul C d_X12_rootOfNumber_22 ?_
    refine z_lload_n (j := 0) C d_X12_rootOfNumber_23 rfl ?_
    refine z_lgt (tgt := 33) C d_X12_rootOfNumber_24 d_X12_rootOfNumber_25 (by decide) hf (fun c24 hf => ?_) (fun c24 hf => ?_)
    · exact z_sub [0, 1, 2] rfl (t_X12_rootOfNumber_33 C hr hk7 _ _ _ _ hf)
    · refine z_lload_n (j := 1) C d_X12_rootOfNumber_28 rfl ?_
      refine z_lload (j := 2) C d_X12_rootOfNumber_29 rfl ?_
      refine z_lor C d_X12_rootOfNumber_31 ?_
      refine z_lstore_n (lv' := [(2, aJ (v2 ||| v4)), (0, aJ v0), (4, aJ v4)]) C d_X12_rootOfNumber_32 (by decide) rfl ?_
      exact z_sub [1, 0, 2] rfl (t_X12_rootOfNumber_33 C hr hk7 _ _ _ _ hf)
def f_X12_rootOfNumber_7 : Nat → Int64 → Int64 → Int64 → Mem → Option (Int64 × Mem)
  | 0 => fun _ _ _ _ => none
  | n + 1 => f_X12_rootOfNumber_7B (f_X12_rootOfNumber_7 n)
theorem t_X12_rootOfNumber_7 {X : MC} {Γ : GG} (C : CX X Γ cX12_rootOfNumber 6 "TickPoolsModel" 0 0) (hr : X.2.2.2.2.2.2.2.2.1.sig.returnType = some .long) {q : Int64 × Mem} : ∀ (n : Nat) (v0 : Int64) (v2 : Int64) (v4 : Int64) (S : Mem) (hf : f_X12_rootOfNumber_7 n v0 v2 v4 S = some q), ZZ X Γ 6 (QQ X Γ (some (aJ q.1)) q.2) S 7 [(0, aJ v0), (2, aJ v2), (4, aJ v4)] []
  | 0, _, _, _, _, hf => nomatch (show (none : Option (Int64 × Mem)) = some q from hf)
  | n + 1, v0, v2, v4, S, hf => t_X12_rootOfNumber_7B C hr (t_X12_rootOfNumber_7 C hr n) v0 v2 v4 S hf
/-- TickPoolsModel.rootOfNumber(J)J -/
def f_X12_rootOfNumber (p0 : Int64) (S : Mem) : Option (Int64 × Mem) := (f_X12_rootOfNumber_7  100000 p0 0 16777216 S)
set_option maxRecDepth 20000 in
theorem c_X12_rootOfNumber {l : Launch} {Γ : GG} (hI : Inj Γ) {p0 : Int64} {S : Mem} {q : Int64 × Mem} (hf : f_X12_rootOfNumber p0 S = some q) : MM l Γ yX12_rootOfNumber cX12_rootOfNumber 6 (some .long) 0 0 [aJ p0] S (some (aJ q.1)) q.2 := by
  refine met_of hI "TickPoolsModel" rfl (by decide +kernel) (Nat.le_of_ble_eq_true rfl) (fun X hX C hr => ?_)
  unfold f_X12_rootOfNumber at hf
  show ZZ X Γ 6 _ S 0 [(0, aJ p0)] []
  refine z_lconst (v := 0) C d_X12_rootOfNumber_0 (by decide) ?_
  refine z_lstore_n (lv' := [(2, aJ 0), (0, aJ p0)]) C d_X12_rootOfNumber_1 (by decide) rfl ?_
  refine z_ldc2 (v := 16777216) C tw_1208 d_X12_rootOfNumber_2 ?_
  refine z_lstore (lv' := [(4, aJ 16777216), (2, aJ 0), (0, aJ p0)]) C d_X12_rootOfNumber_5 (by decide) rfl ?_
  exact z_sub [2, 1, 0] rfl (t_X12_rootOfNumber_7 C hr  100000 _ _ _ _ hf)
theorem d_X12_isIn_0 : decode cX12_isIn 0 = .ok (.lload_n 0, 1) := by decide +kernel
theorem d_X12_isIn_1 : decode cX12_isIn 1 = .ok (.lload_n 2, 1) := by decide +kernel
theorem d_X12_isIn_2 : decode cX12_isIn 2 = .ok (.lcmp, 1) := by decide +kernel
theorem d_X12_isIn_3 : decode cX12_isIn 3 = .ok (.ifCond .lt 14, 3) := by decide +kernel
theorem d_X12_isIn_6 : decode cX12_isIn 6 = .ok (.lload_n 0, 1) := by decide +kernel
theorem d_X12_isIn_7 : decode cX12_isIn 7 = .ok (.lload 4, 2) := by decide +kernel
theorem d_X12_isIn_9 : decode cX12_isIn 9 = .ok (.lcmp, 1) := by decide +kernel
theorem d_X12_isIn_10 : decode cX12_isIn 10 = .ok (.ifCond .gt 7, 3) := by decide +kernel
theorem d_X12_isIn_13 : decode cX12_isIn 13 = .ok (.iconst 1, 1) := by decide +kernel
theorem d_X12_isIn_14 : decode cX12_isIn 14 = .ok (.goto 4, 3) := by decide +kernel
theorem d_X12_isIn_17 : decode cX12_isIn 17 = .ok (.iconst 0, 1) := by decide +kernel
theorem d_X12_isIn_18 : decode cX12_isIn 18 = .ok (.ireturn, 1) := by decide +kernel
def f_X12_isIn_18 (s0 : Int32) (S : Mem) : Option (Int32 × Mem) := (if isB s0 = true then (some (s0, S)) else none)
set_option maxRecDepth 20000 in
theorem t_X12_isIn_18 {X : MC} {Γ : GG} (C : CX X Γ cX12_isIn 6 "TickPoolsModel" 0 0) (hr : X.2.2.2.2.2.2.2.2.1.sig.returnType = some .boolean) {q : Int32 × Mem} (s0 : Int32) (S : Mem) (hf : f_X12_isIn_18 s0 S = some q) : ZZ X Γ 6 (QQ X Γ (some (aI q.1)) q.2) S 18 [] [aI s0] := by
  unfold f_X12_isIn_18 at hf
  obtain ⟨hb18_0, hf⟩ := gd hf
  exact r_i C hr (isB_nar hb18_0).1 d_X12_isIn_18 hf
def f_X12_isIn_17 (S : Mem) : Option (Int32 × Mem) := (f_X12_isIn_18  0 S)
set_option maxRecDepth 20000 in
theorem t_X12_isIn_17 {X : MC} {Γ : GG} (C : CX X Γ cX12_isIn 6 "TickPoolsModel" 0 0) (hr : X.2.2.2.2.2.2.2.2.1.sig.returnType = some .boolean) {q : Int32 × Mem} (S : Mem) (hf : f_X12_isIn_17 S = some q) : ZZ X Γ 6 (QQ X Γ (some (aI q.1)) q.2) S 17 [] [] := by
  unfold f_X12_isIn_17 at hf
  refine z_iconst (v := 0) C d_X12_isIn_17 (by decide) ?_
  exact z_sub [] rfl (t_X12_isIn_18 C hr  _ _ hf)
/-- TickPoolsModel.isIn(JJJ)Z -/
def f_X12_isIn (p0 : Int64) (p2 : Int64) (p4 : Int64) (S : Mem) : Option (Int32 × Mem) := (if p0 < p2 then (f_X12_isIn_17  S) else (if p4 < p0 then (f_X12_isIn_17  S) else (f_X12_isIn_18  1 S)))
set_option maxRecDepth 20000 in
theorem c_X12_isIn {l : Launch} {Γ : GG} (hI : Inj Γ) {p0 : Int64} {p2 : Int64} {p4 : Int64} {S : Mem} {q : Int32 × Mem} (hf : f_X12_isIn p0 p2 p4 S = some q) : MM l Γ yX12_isIn cX12_isIn 6 (some .boolean) 0 0 [aJ p0, aJ p2, aJ p4] S (some (aI q.1)) q.2 := by
  refine met_of hI "TickPoolsModel" rfl (by decide +kernel) (Nat.le_of_ble_eq_true rfl) (fun X hX C hr => ?_)
  unfold f_X12_isIn at hf
  show ZZ X Γ 6 _ S 0 [(0, aJ p0), (2, aJ p2), (4, aJ p4)] []
  refine z_lload_n (j := 0) C d_X12_isIn_0 rfl ?_
  refine z_lload_n (j := 1) C d_X12_isIn_1 rfl ?_
  refine z_llt (tgt := 17) C d_X12_isIn_2 d_X12_isIn_3 (by decide) hf (fun c2 hf => ?_) (fun c2 hf => ?_)
  · exact z_sub [] rfl (t_X12_isIn_17 C hr  _ hf)
  · refine z_lload_n (j := 0) C d_X12_isIn_6 rfl ?_
    refine z_lload (j := 2) C d_X12_isIn_7 rfl ?_
    refine z_lgt (tgt := 17) C d_X12_isIn_9 d_X12_isIn_10 (by decide) hf (fun c9 hf => ?_) (fun c9 hf => ?_)
    · exact z_sub [] rfl (t_X12_isIn_17 C hr  _ hf)
    · refine z_iconst (v := 1) C d_X12_isIn_13 (by decide) ?_
      refine z_goto (tgt := 18) C d_X12_isIn_14 (by decide) ?_
      exact z_sub [] rfl (t_X12_isIn_18 C hr  _ _ hf)
theorem d_X12_up_0 : decode cX12_up 0 = .ok (.lload_n 0, 1) := by decide +kernel
theorem d_X12_up_1 : decode cX12_up 1 = .ok (.lload_n 2, 1) := by decide +kernel
theorem d_X12_up_2 : decode cX12_up 2 = .ok (.ladd, 1) := by decide +kernel
theorem d_X12_up_3 : decode cX12_up 3 = .ok (.lconst 1, 1) := by decide +kernel
theorem d_X12_up_4 : decode cX12_up 4 = .ok (.lsub, 1) := by decide +kernel
theorem d_X12_up_5 : decode cX12_up 5 = .ok (.lload_n 2, 1) := by decide +kernel
theorem d_X12_up_6 : decode cX12_up 6 = .ok (.ldiv, 1) := by decide +kernel
theorem d_X12_up_7 : decode cX12_up 7 = .ok (.lreturn, 1) := by decide +kernel
/-- TickPoolsModel.up(JJ)J -/
def f_X12_up (p0 : Int64) (p2 : Int64) (S : Mem) : Option (Int64 × Mem) := (if p2 = 0 then none else (some ((((p0 + p2) - 1) / p2), S)))
set_option maxRecDepth 20000 in
theorem c_X12_up {l : Launch} {Γ : GG} (hI : Inj Γ) {p0 : Int64} {p2 : Int64} {S : Mem} {q : Int64 × Mem} (hf : f_X12_up p0 p2 S = some q) : MM l Γ yX12_up cX12_up 4 (some .long) 0 0 [aJ p0, aJ p2] S (some (aJ q.1)) q.2 := by
  refine met_of hI "TickPoolsModel" rfl (by decide +kernel) (Nat.le_of_ble_eq_true rfl) (fun X hX C hr => ?_)
  unfold f_X12_up at hf
  show ZZ X Γ 4 _ S 0 [(0, aJ p0), (2, aJ p2)] []
  refine z_lload_n (j := 0) C d_X12_up_0 rfl ?_
  refine z_lload_n (j := 1) C d_X12_up_1 rfl ?_
  refine z_ladd C d_X12_up_2 ?_
  refine z_lconst (v := 1) C d_X12_up_3 (by decide) ?_
  refine z_lsub C d_X12_up_4 ?_
  refine z_lload_n (j := 1) C d_X12_up_5 rfl ?_
  obtain ⟨hz6, hf⟩ := gdn hf
  refine z_ldiv C d_X12_up_6 hz6 ?_
  exact r_l C hr d_X12_up_7 hf
theorem d_X12_zoneOf_0 : decode cX12_zoneOf 0 = .ok (.iconst 0, 1) := by decide +kernel
theorem d_X12_zoneOf_1 : decode cX12_zoneOf 1 = .ok (.istore_n 3, 1) := by decide +kernel
theorem d_X12_zoneOf_2 : decode cX12_zoneOf 2 = .ok (.iload_n 3, 1) := by decide +kernel
theorem d_X12_zoneOf_3 : decode cX12_zoneOf 3 = .ok (.bipush 39, 2) := by decide +kernel
theorem d_X12_zoneOf_5 : decode cX12_zoneOf 5 = .ok (.if_icmp .ge 22, 3) := by decide +kernel
theorem d_X12_zoneOf_8 : decode cX12_zoneOf 8 = .ok (.aload_n 0, 1) := by decide +kernel
theorem d_X12_zoneOf_9 : decode cX12_zoneOf 9 = .ok (.getfield 7, 3) := by decide +kernel
theorem d_X12_zoneOf_12 : decode cX12_zoneOf 12 = .ok (.iload_n 3, 1) := by decide +kernel
theorem d_X12_zoneOf_13 : decode cX12_zoneOf 13 = .ok (.iconst 1, 1) := by decide +kernel
theorem d_X12_zoneOf_14 : decode cX12_zoneOf 14 = .ok (.iadd, 1) := by decide +kernel
theorem d_X12_zoneOf_15 : decode cX12_zoneOf 15 = .ok (.laload, 1) := by decide +kernel
theorem d_X12_zoneOf_16 : decode cX12_zoneOf 16 = .ok (.lload_n 1, 1) := by decide +kernel
theorem d_X12_zoneOf_17 : decode cX12_zoneOf 17 = .ok (.lcmp, 1) := by decide +kernel
theorem d_X12_zoneOf_18 : decode cX12_zoneOf 18 = .ok (.ifCond .gt 9, 3) := by decide +kernel
theorem d_X12_zoneOf_21 : decode cX12_zoneOf 21 = .ok (.iinc 3 1, 3) := by decide +kernel
theorem d_X12_zoneOf_24 : decode cX12_zoneOf 24 = .ok (.goto (-22), 3) := by decide +kernel
theorem d_X12_zoneOf_27 : decode cX12_zoneOf 27 = .ok (.iload_n 3, 1) := by decide +kernel
theorem d_X12_zoneOf_28 : decode cX12_zoneOf 28 = .ok (.ireturn, 1) := by decide +kernel
def f_X12_zoneOf_27 (v3 : Int32) (S : Mem) : Option (Int32 × Mem) := (some (v3, S))
set_option maxRecDepth 20000 in
theorem t_X12_zoneOf_27 {X : MC} {Γ : GG} (C : CX X Γ cX12_zoneOf 4 "TickPoolsModel" 0 0) (hr : X.2.2.2.2.2.2.2.2.1.sig.returnType = some .int) {q : Int32 × Mem} (v3 : Int32) (S : Mem) (hf : f_X12_zoneOf_27 v3 S = some q) : ZZ X Γ 4 (QQ X Γ (some (aI q.1)) q.2) S 27 [(3, aI v3)] [] := by
  unfold f_X12_zoneOf_27 at hf
  refine z_iload_n (j := 0) C d_X12_zoneOf_27 rfl ?_
  exact r_i C hr rfl d_X12_zoneOf_28 hf
def f_X12_zoneOf_2B (k2 : Int64 → Int32 → Mem → Option (Int32 × Mem)) (v1 : Int64) (v3 : Int32) (S : Mem) : Option (Int32 × Mem) := (if 39 ≤ v3 then (f_X12_zoneOf_27  v3 S) else (if inb (v3 + 1) 41 = true then (if v1 < (gL S 21 (((v3 + 1) : Int32).toNatClampNeg)) then (f_X12_zoneOf_27  v3 S) else (k2 v1 (v3 + 1) S)) else none))
set_option maxRecDepth 20000 in
theorem t_X12_zoneOf_2B {X : MC} {Γ : GG} (C : CX X Γ cX12_zoneOf 4 "TickPoolsModel" 0 0) (hr : X.2.2.2.2.2.2.2.2.1.sig.returnType = some .int) {k2 : Int64 → Int32 → Mem → Option (Int32 × Mem)} {q : Int32 × Mem} (hk2 : ∀ (v1 : Int64) (v3 : Int32) (S : Mem), k2 v1 v3 S = some q → ZZ X Γ 4 (QQ X Γ (some (aI q.1)) q.2) S 2 [(0, aR 20), (1, aJ v1), (3, aI v3)] []) (v1 : Int64) (v3 : Int32) (S : Mem) (hf : f_X12_zoneOf_2B k2 v1 v3 S = some q) : ZZ X Γ 4 (QQ X Γ (some (aI q.1)) q.2) S 2 [(0, aR 20), (1, aJ v1), (3, aI v3)] [] := by
  unfold f_X12_zoneOf_2B at hf
  refine z_iload_n (j := 2) C d_X12_zoneOf_2 rfl ?_
  refine z_bipush (v := 39) C d_X12_zoneOf_3 (by decide) ?_
  refine z_icmp_ge (tgt := 27) C d_X12_zoneOf_5 (by decide) hf (fun c5 hf => ?_) (fun c5 hf => ?_)
  · exact z_sub [2] rfl (t_X12_zoneOf_27 C hr  _ _ hf)
  · refine z_aload_n (j := 0) C d_X12_zoneOf_8 rfl ?_
    refine zg_X12_rootOf C rfl tw_1211 d_X12_zoneOf_9 ?_
    refine z_iload_n (j := 2) C d_X12_zoneOf_12 rfl ?_
    refine z_iconst (v := 1) C d_X12_zoneOf_13 (by decide) ?_
    refine z_iadd C d_X12_zoneOf_14 ?_
    obtain ⟨hi15_0, hf⟩ := gd hf
    refine z_lald C rfl hi15_0 d_X12_zoneOf_15 ?_
    refine z_lload_n (j := 1) C d_X12_zoneOf_16 rfl ?_
    refine z_lgt (tgt := 27) C d_X12_zoneOf_17 d_X12_zoneOf_18 (by decide) hf (fun c17 hf => ?_) (fun c17 hf => ?_)
    · exact z_sub [2] rfl (t_X12_zoneOf_27 C hr  _ _ hf)
    · refine z_iinc (j := 2) (v := (v3 + 1)) (lv' := [(3, aI (v3 + 1)), (0, aR 20), (1, aJ v1)]) C d_X12_zoneOf_21 rfl rfl (by decide) rfl ?_
      refine z_goto (tgt := 2) C d_X12_zoneOf_24 (by decide) ?_
      exact z_sub [1, 2, 0] rfl (hk2 _ _ _ hf)
def f_X12_zoneOf_2 : Nat → Int64 → Int32 → Mem → Option (Int32 × Mem)
  | 0 => fun _ _ _ => none
  | n + 1 => f_X12_zoneOf_2B (f_X12_zoneOf_2 n)
theorem t_X12_zoneOf_2 {X : MC} {Γ : GG} (C : CX X Γ cX12_zoneOf 4 "TickPoolsModel" 0 0) (hr : X.2.2.2.2.2.2.2.2.1.sig.returnType = some .int) {q : Int32 × Mem} : ∀ (n : Nat) (v1 : Int64) (v3 : Int32) (S : Mem) (hf : f_X12_zoneOf_2 n v1 v3 S = some q), ZZ X Γ 4 (QQ X Γ (some (aI q.1)) q.2) S 2 [(0, aR 20), (1, aJ v1), (3, aI v3)] []
  | 0, _, _, _, hf => nomatch (show (none : Option (Int32 × Mem)) = some q from hf)
  | n + 1, v1, v3, S, hf => t_X12_zoneOf_2B C hr (t_X12_zoneOf_2 C hr n) v1 v3 S hf
/-- TickPoolsModel.zoneOf(J)I -/
def f_X12_zoneOf (p1 : Int64) (S : Mem) : Option (Int32 × Mem) := (f_X12_zoneOf_2  100000 p1 0 S)
set_option maxRecDepth 20000 in
theorem c_X12_zoneOf {l : Launch} {Γ : GG} (hI : Inj Γ) {p1 : Int64} {S : Mem} {q : Int32 × Mem} (hf : f_X12_zoneOf p1 S = some q) : MM l Γ yX12_zoneOf cX12_zoneOf 4 (some .int) 0 0 [aR 20, aJ p1] S (some (aI q.1)) q.2 := by
  refine met_of hI "TickPoolsModel" rfl (by decide +kernel) (Nat.le_of_ble_eq_true rfl) (fun X hX C hr => ?_)
  unfold f_X12_zoneOf at hf
  show ZZ X Γ 4 _ S 0 [(0, aR 20), (1, aJ p1)] []
  refine z_iconst (v := 0) C d_X12_zoneOf_0 (by decide) ?_
  refine z_istore_n (lv' := [(3, aI 0), (0, aR 20), (1, aJ p1)]) C d_X12_zoneOf_1 (by decide) rfl ?_
  exact z_sub [1, 2, 0] rfl (t_X12_zoneOf_2 C hr  100000 _ _ _ hf)
theorem d_X12_feeOf_0 : decode cX12_feeOf 0 = .ok (.aload_n 0, 1) := by decide +kernel
theorem d_X12_feeOf_1 : decode cX12_feeOf 1 = .ok (.getfield 13, 3) := by decide +kernel
theorem d_X12_feeOf_4 : decode cX12_feeOf 4 = .ok (.iconst 5, 1) := by decide +kernel
theorem d_X12_feeOf_5 : decode cX12_feeOf 5 = .ok (.iload_n 1, 1) := by decide +kernel
theorem d_X12_feeOf_6 : decode cX12_feeOf 6 = .ok (.imul, 1) := by decide +kernel
theorem d_X12_feeOf_7 : decode cX12_feeOf 7 = .ok (.iconst 2, 1) := by decide +kernel
theorem d_X12_feeOf_8 : decode cX12_feeOf 8 = .ok (.iadd, 1) := by decide +kernel
theorem d_X12_feeOf_9 : decode cX12_feeOf 9 = .ok (.iaload, 1) := by decide +kernel
theorem d_X12_feeOf_10 : decode cX12_feeOf 10 = .ok (.ireturn, 1) := by decide +kernel
/-- TickPoolsModel.feeOf(I)I -/
def f_X12_feeOf (p1 : Int32) (S : Mem) : Option (Int32 × Mem) := (if inb ((5 * p1) + 2) 25 = true then (some ((gI S 22 ((((5 * p1) + 2) : Int32).toNatClampNeg)), S)) else none)
set_option maxRecDepth 20000 in
theorem c_X12_feeOf {l : Launch} {Γ : GG} (hI : Inj Γ) {p1 : Int32} {S : Mem} {q : Int32 × Mem} (hf : f_X12_feeOf p1 S = some q) : MM l Γ yX12_feeOf cX12_feeOf 2 (some .int) 0 0 [aR 20, aI p1] S (some (aI q.1)) q.2 := by
  refine met_of hI "TickPoolsModel" rfl (by decide +kernel) (Nat.le_of_ble_eq_true rfl) (fun X hX C hr => ?_)
  unfold f_X12_feeOf at hf
  show ZZ X Γ 2 _ S 0 [(0, aR 20), (1, aI p1)] []
  refine z_aload_n (j := 0) C d_X12_feeOf_0 rfl ?_
  refine zg_X12_told C rfl tw_1215 d_X12_feeOf_1 ?_
  refine z_iconst (v := 5) C d_X12_feeOf_4 (by decide) ?_
  refine z_iload_n (j := 1) C d_X12_feeOf_5 rfl ?_
  refine z_imul C d_X12_feeOf_6 ?_
  refine z_iconst (v := 2) C d_X12_feeOf_7 (by decide) ?_
  refine z_iadd C d_X12_feeOf_8 ?_
  obtain ⟨hi9_0, hf⟩ := gd hf
  refine z_iald C rfl hi9_0 d_X12_feeOf_9 ?_
  exact r_i C hr rfl d_X12_feeOf_10 hf
theorem d_X12_keeps_0 : decode cX12_keeps 0 = .ok (.iconst 0, 1) := by decide +kernel
theorem d_X12_keeps_1 : decode cX12_keeps 1 = .ok (.istore_n 2, 1) := by decide +kernel
theorem d_X12_keeps_2 : decode cX12_keeps 2 = .ok (.iload_n 2, 1) := by decide +kernel
theorem d_X12_keeps_3 : decode cX12_keeps 3 = .ok (.sipush 258, 3) := by decide +kernel
theorem d_X12_keeps_6 : decode cX12_keeps 6 = .ok (.if_icmp .ge 27, 3) := by decide +kernel
theorem d_X12_keeps_9 : decode cX12_keeps 9 = .ok (.aload_n 0, 1) := by decide +kernel
theorem d_X12_keeps_10 : decode cX12_keeps 10 = .ok (.getfield 20, 3) := by decide +kernel
theorem d_X12_keeps_13 : decode cX12_keeps 13 = .ok (.sipush 258, 3) := by decide +kernel
theorem d_X12_keeps_16 : decode cX12_keeps 16 = .ok (.iload_n 1, 1) := by decide +kernel
theorem d_X12_keeps_17 : decode cX12_keeps 17 = .ok (.imul, 1) := by decide +kernel
theorem d_X12_keeps_18 : decode cX12_keeps 18 = .ok (.iload_n 2, 1) := by decide +kernel
theorem d_X12_keeps_19 : decode cX12_keeps 19 = .ok (.iadd, 1) := by decide +kernel
theorem d_X12_keeps_20 : decode cX12_keeps 20 = .ok (.aload_n 0, 1) := by decide +kernel
theorem d_X12_keeps_21 : decode cX12_keeps 21 = .ok (.getfield 17, 3) := by decide +kernel
theorem d_X12_keeps_24 : decode cX12_keeps 24 = .ok (.iload_n 2, 1) := by decide +kernel
theorem d_X12_keeps_25 : decode cX12_keeps 25 = .ok (.laload, 1) := by decide +kernel
theorem d_X12_keeps_26 : decode cX12_keeps 26 = .ok (.lastore, 1) := by decide +kernel
theorem d_X12_keeps_27 : decode cX12_keeps 27 = .ok (.iinc 2 1, 3) := by decide +kernel
theorem d_X12_keeps_30 : decode cX12_keeps 30 = .ok (.goto (-28), 3) := by decide +kernel
theorem d_X12_keeps_33 : decode cX12_keeps 33 = .ok (.return_, 1) := by decide +kernel
def f_X12_keeps_2B (k2 : Int32 → Int32 → Mem → Option (Unit × Mem)) (v1 : Int32) (v2 : Int32) (S : Mem) : Option (Unit × Mem) := (if 258 ≤ v2 then (some ((), S)) else (if inb v2 258 = true then (if inb ((258 * v1) + v2) 516 = true then (k2 v1 (v2 + 1) (sL S 24 ((((258 * v1) + v2) : Int32).toNatClampNeg) (gL S 23 ((v2 : Int32).toNatClampNeg)))) else none) else none))
set_option maxRecDepth 20000 in
theorem t_X12_keeps_2B {X : MC} {Γ : GG} (C : CX X Γ cX12_keeps 3 "TickPoolsModel" 0 0) (hr : X.2.2.2.2.2.2.2.2.1.sig.returnType = none) {k2 : Int32 → Int32 → Mem → Option (Unit × Mem)} {q : Unit × Mem} (hk2 : ∀ (v1 : Int32) (v2 : Int32) (S : Mem), k2 v1 v2 S = some q → ZZ X Γ 3 (QQ X Γ none q.2) S 2 [(0, aR 20), (1, aI v1), (2, aI v2)] []) (v1 : Int32) (v2 : Int32) (S : Mem) (hf : f_X12_keeps_2B k2 v1 v2 S = some q) : ZZ X Γ 3 (QQ X Γ none q.2) S 2 [(0, aR 20), (1, aI v1), (2, aI v2)] [] := by
  unfold f_X12_keeps_2B at hf
  refine z_iload_n (j := 2) C d_X12_keeps_2 rfl ?_
  refine z_sipush (v := 258) C d_X12_keeps_3 (by decide) ?_
  refine z_icmp_ge (tgt := 33) C d_X12_keeps_6 (by decide) hf (fun c6 hf => ?_) (fun c6 hf => ?_)
  · exact r_v C hr d_X12_keeps_33 hf
  · refine z_aload_n (j := 0) C d_X12_keeps_9 rfl ?_
    refine zg_X12_was C rfl tw_1217 d_X12_keeps_10 ?_
    refine z_sipush (v := 258) C d_X12_keeps_13 (by decide) ?_
    refine z_iload_n (j := 1) C d_X12_keeps_16 rfl ?_
    refine z_imul C d_X12_keeps_17 ?_
    refine z_iload_n (j := 2) C d_X12_keeps_18 rfl ?_
    refine z_iadd C d_X12_keeps_19 ?_
    refine z_aload_n (j := 0) C d_X12_keeps_20 rfl ?_
    refine zg_X12_now C rfl tw_1216 d_X12_keeps_21 ?_
    refine z_iload_n (j := 2) C d_X12_keeps_24 rfl ?_
    obtain ⟨hi25_0, hf⟩ := gd hf
    refine z_lald C rfl hi25_0 d_X12_keeps_25 ?_
    obtain ⟨hi26_1, hf⟩ := gd hf
    refine z_last C rfl hi26_1 d_X12_keeps_26 ?_
    refine z_iinc (j := 2) (v := (v2 + 1)) (lv' := [(2, aI (v2 + 1)), (0, aR 20), (1, aI v1)]) C d_X12_keeps_27 rfl rfl (by decide) rfl ?_
    refine z_goto (tgt := 2) C d_X12_keeps_30 (by decide) ?_
    exact z_sub [1, 2, 0] rfl (hk2 _ _ _ hf)
def f_X12_keeps_2 : Nat → Int32 → Int32 → Mem → Option (Unit × Mem)
  | 0 => fun _ _ _ => none
  | n + 1 => f_X12_keeps_2B (f_X12_keeps_2 n)
theorem t_X12_keeps_2 {X : MC} {Γ : GG} (C : CX X Γ cX12_keeps 3 "TickPoolsModel" 0 0) (hr : X.2.2.2.2.2.2.2.2.1.sig.returnType = none) {q : Unit × Mem} : ∀ (n : Nat) (v1 : Int32) (v2 : Int32) (S : Mem) (hf : f_X12_keeps_2 n v1 v2 S = some q), ZZ X Γ 3 (QQ X Γ none q.2) S 2 [(0, aR 20), (1, aI v1), (2, aI v2)] []
  | 0, _, _, _, hf => nomatch (show (none : Option (Unit × Mem)) = some q from hf)
  | n + 1, v1, v2, S, hf => t_X12_keeps_2B C hr (t_X12_keeps_2 C hr n) v1 v2 S hf
/-- TickPoolsModel.keeps(I)V -/
def f_X12_keeps (p1 : Int32) (S : Mem) : Option (Unit × Mem) := (f_X12_keeps_2  100000 p1 0 S)
set_option maxRecDepth 20000 in
theorem c_X12_keeps {l : Launch} {Γ : GG} (hI : Inj Γ) {p1 : Int32} {S : Mem} {q : Unit × Mem} (hf : f_X12_keeps p1 S = some q) : MM l Γ yX12_keeps cX12_keeps 3 (none) 0 0 [aR 20, aI p1] S none q.2 := by
  refine met_of hI "TickPoolsModel" rfl (by decide +kernel) (Nat.le_of_ble_eq_true rfl) (fun X hX C hr => ?_)
  unfold f_X12_keeps at hf
  show ZZ X Γ 3 _ S 0 [(0, aR 20), (1, aI p1)] []
  refine z_iconst (v := 0) C d_X12_keeps_0 (by decide) ?_
  refine z_istore_n (lv' := [(2, aI 0), (0, aR 20), (1, aI p1)]) C d_X12_keeps_1 (by decide) rfl ?_
  exact z_sub [1, 2, 0] rfl (t_X12_keeps_2 C hr  100000 _ _ _ hf)
theorem d_X12_laysBack_0 : decode cX12_laysBack 0 = .ok (.iconst 0, 1) := by decide +kernel
theorem d_X12_laysBack_1 : decode cX12_laysBack 1 = .ok (.istore_n 2, 1) := by decide +kernel
theorem d_X12_laysBack_2 : decode cX12_laysBack 2 = .ok (.iload_n 2, 1) := by decide +kernel
theorem d_X12_laysBack_3 : decode cX12_laysBack 3 = .ok (.sipush 258, 3) := by decide +kernel
theorem d_X12_laysBack_6 : decode cX12_laysBack 6 = .ok (.if_icmp .ge 27, 3) := by decide +kernel
theorem d_X12_laysBack_9 : decode cX12_laysBack 9 = .ok (.aload_n 0, 1) := by decide +kernel
theorem d_X12_laysBack_10 : decode cX12_laysBack 10 = .ok (.getfield 17, 3) := by decide +kernel
theorem d_X12_laysBack_13 : decode cX12_laysBack 13 = .ok (.iload_n 2, 1) := by decide +kernel
theorem d_X12_laysBack_14 : decode cX12_laysBack 14 = .ok (.aload_n 0, 1) := by decide +kernel
theorem d_X12_laysBack_15 : decode cX12_laysBack 15 = .ok (.getfield 20, 3) := by decide +kernel
theorem d_X12_laysBack_18 : decode cX12_laysBack 18 = .ok (.sipush 258, 3) := by decide +kernel
theorem d_X12_laysBack_21 : decode cX12_laysBack 21 = .ok (.iload_n 1, 1) := by decide +kernel
theorem d_X12_laysBack_22 : decode cX12_laysBack 22 = .ok (.imul, 1) := by decide +kernel
theorem d_X12_laysBack_23 : decode cX12_laysBack 23 = .ok (.iload_n 2, 1) := by decide +kernel
theorem d_X12_laysBack_24 : decode cX12_laysBack 24 = .ok (.iadd, 1) := by decide +kernel
theorem d_X12_laysBack_25 : decode cX12_laysBack 25 = .ok (.laload, 1) := by decide +kernel
theorem d_X12_laysBack_26 : decode cX12_laysBack 26 = .ok (.lastore, 1) := by decide +kernel
theorem d_X12_laysBack_27 : decode cX12_laysBack 27 = .ok (.iinc 2 1, 3) := by decide +kernel
theorem d_X12_laysBack_30 : decode cX12_laysBack 30 = .ok (.goto (-28), 3) := by decide +kernel
theorem d_X12_laysBack_33 : decode cX12_laysBack 33 = .ok (.return_, 1) := by decide +kernel
def f_X12_laysBack_2B (k2 : Int32 → Int32 → Mem → Option (Unit × Mem)) (v1 : Int32) (v2 : Int32) (S : Mem) : Option (Unit × Mem) := (if 258 ≤ v2 then (some ((), S)) else (if inb ((258 * v1) + v2) 516 = true then (if inb v2 258 = true then (k2 v1 (v2 + 1) (sL S 23 ((v2 : Int32).toNatClampNeg) (gL S 24 ((((258 * v1) + v2) : Int32).toNatClampNeg)))) else none) else none))
set_option maxRecDepth 20000 in
theorem t_X12_laysBack_2B {X : MC} {Γ : GG} (C : CX X Γ cX12_laysBack 3 "TickPoolsModel" 0 0) (hr : X.2.2.2.2.2.2.2.2.1.sig.returnType = none) {k2 : Int32 → Int32 → Mem → Option (Unit × Mem)} {q : Unit × Mem} (hk2 : ∀ (v1 : Int32) (v2 : Int32) (S : Mem), k2 v1 v2 S = some q → ZZ X Γ 3 (QQ X Γ none q.2) S 2 [(0, aR 20), (1, aI v1), (2, aI v2)] []) (v1 : Int32) (v2 : Int32) (S : Mem) (hf : f_X12_laysBack_2B k2 v1 v2 S = some q) : ZZ X Γ 3 (QQ X Γ none q.2) S 2 [(0, aR 20), (1, aI v1), (2, aI v2)] [] := by
  unfold f_X12_laysBack_2B at hf
  refine z_iload_n (j := 2) C d_X12_laysBack_2 rfl ?_
  refine z_sipush (v := 258) C d_X12_laysBack_3 (by decide) ?_
  refine z_icmp_ge (tgt := 33) C d_X12_laysBack_6 (by decide) hf (fun c6 hf => ?_) (fun c6 hf => ?_)
  · exact r_v C hr d_X12_laysBack_33 hf
  · refine z_aload_n (j := 0) C d_X12_laysBack_9 rfl ?_
    refine zg_X12_now C rfl tw_1216 d_X12_laysBack_10 ?_
    refine z_iload_n (j := 2) C d_X12_laysBack_13 rfl ?_
    refine z_aload_n (j := 0) C d_X12_laysBack_14 rfl ?_
    refine zg_X12_was C rfl tw_1217 d_X12_laysBack_15 ?_
    refine z_sipush (v := 258) C d_X12_laysBack_18 (by decide) ?_
    refine z_iload_n (j := 1) C d_X12_laysBack_21 rfl ?_
    refine z_imul C d_X12_laysBack_22 ?_
    refine z_iload_n (j := 2) C d_X12_laysBack_23 rfl ?_
    refine z_iadd C d_X12_laysBack_24 ?_
    obtain ⟨hi25_0, hf⟩ := gd hf
    refine z_lald C rfl hi25_0 d_X12_laysBack_25 ?_
    obtain ⟨hi26_1, hf⟩ := gd hf
    refine z_last C rfl hi26_1 d_X12_laysBack_26 ?_
    refine z_iinc (j := 2) (v := (v2 + 1)) (lv' := [(2, aI (v2 + 1)), (0, aR 20), (1, aI v1)]) C d_X12_laysBack_27 rfl rfl (by decide) rfl ?_
    refine z_goto (tgt := 2) C d_X12_laysBack_30 (by decide) ?_
    exact z_sub [1, 2, 0] rfl (hk2 _ _ _ hf)
def f_X12_laysBack_2 : Nat → Int32 → Int32 → Mem → Option (Unit × Mem)
  | 0 => fun _ _ _ => none
  | n + 1 => f_X12_laysBack_2B (f_X12_laysBack_2 n)
theorem t_X12_laysBack_2 {X : MC} {Γ : GG} (C : CX X Γ cX12_laysBack 3 "TickPoolsModel" 0 0) (hr : X.2.2.2.2.2.2.2.2.1.sig.returnType = none) {q : Unit × Mem} : ∀ (n : Nat) (v1 : Int32) (v2 : Int32) (S : Mem) (hf : f_X12_laysBack_2 n v1 v2 S = some q), ZZ X Γ 3 (QQ X Γ none q.2) S 2 [(0, aR 20), (1, aI v1), (2, aI v2)] []
  | 0, _, _, _, hf => nomatch (show (none : Option (Unit × Mem)) = some q from hf)
  | n + 1, v1, v2, S, hf => t_X12_laysBack_2B C hr (t_X12_laysBack_2 C hr n) v1 v2 S hf
/-- TickPoolsModel.laysBack(I)V -/
def f_X12_laysBack (p1 : Int32) (S : Mem) : Option (Unit × Mem) := (f_X12_laysBack_2  100000 p1 0 S)
set_option maxRecDepth 20000 in
theorem c_X12_laysBack {l : Launch} {Γ : GG} (hI : Inj Γ) {p1 : Int32} {S : Mem} {q : Unit × Mem} (hf : f_X12_laysBack p1 S = some q) : MM l Γ yX12_laysBack cX12_laysBack 3 (none) 0 0 [aR 20, aI p1] S none q.2 := by
  refine met_of hI "TickPoolsModel" rfl (by decide +kernel) (Nat.le_of_ble_eq_true rfl) (fun X hX C hr => ?_)
  unfold f_X12_laysBack at hf
  show ZZ X Γ 3 _ S 0 [(0, aR 20), (1, aI p1)] []
  refine z_iconst (v := 0) C d_X12_laysBack_0 (by decide) ?_
  refine z_istore_n (lv' := [(2, aI 0), (0, aR 20), (1, aI p1)]) C d_X12_laysBack_1 (by decide) rfl ?_
  exact z_sub [1, 2, 0] rfl (t_X12_laysBack_2 C hr  100000 _ _ _ hf)
theorem d_X12_ofPool_0 : decode cX12_ofPool 0 = .ok (.aload_n 0, 1) := by decide +kernel
theorem d_X12_ofPool_1 : decode cX12_ofPool 1 = .ok (.getfield 17, 3) := by decide +kernel
theorem d_X12_ofPool_4 : decode cX12_ofPool 4 = .ok (.bipush 22, 2) := by decide +kernel
theorem d_X12_ofPool_6 : decode cX12_ofPool 6 = .ok (.bipush 23, 2) := by decide +kernel
theorem d_X12_ofPool_8 : decode cX12_ofPool 8 = .ok (.iload_n 1, 1) := by decide +kernel
theorem d_X12_ofPool_9 : decode cX12_ofPool 9 = .ok (.imul, 1) := by decide +kernel
theorem d_X12_ofPool_10 : decode cX12_ofPool 10 = .ok (.iadd, 1) := by decide +kernel
theorem d_X12_ofPool_11 : decode cX12_ofPool 11 = .ok (.iload_n 2, 1) := by decide +kernel
theorem d_X12_ofPool_12 : decode cX12_ofPool 12 = .ok (.iadd, 1) := by decide +kernel
theorem d_X12_ofPool_13 : decode cX12_ofPool 13 = .ok (.laload, 1) := by decide +kernel
theorem d_X12_ofPool_14 : decode cX12_ofPool 14 = .ok (.lreturn, 1) := by decide +kernel
/-- TickPoolsModel.ofPool(II)J -/
def f_X12_ofPool (p1 : Int32) (p2 : Int32) (S : Mem) : Option (Int64 × Mem) := (if inb ((22 + (23 * p1)) + p2) 258 = true then (some ((gL S 23 ((((22 + (23 * p1)) + p2) : Int32).toNatClampNeg)), S)) else none)
set_option maxRecDepth 20000 in
theorem c_X12_ofPool {l : Launch} {Γ : GG} (hI : Inj Γ) {p1 : Int32} {p2 : Int32} {S : Mem} {q : Int64 × Mem} (hf : f_X12_ofPool p1 p2 S = some q) : MM l Γ yX12_ofPool cX12_ofPool 3 (some .long) 0 0 [aR 20, aI p1, aI p2] S (some (aJ q.1)) q.2 := by
  refine met_of hI "TickPoolsModel" rfl (by decide +kernel) (Nat.le_of_ble_eq_true rfl) (fun X hX C hr => ?_)
  unfold f_X12_ofPool at hf
  show ZZ X Γ 3 _ S 0 [(0, aR 20), (1, aI p1), (2, aI p2)] []
  refine z_aload_n (j := 0) C d_X12_ofPool_0 rfl ?_
  refine zg_X12_now C rfl tw_1216 d_X12_ofPool_1 ?_
  refine z_bipush (v := 22) C d_X12_ofPool_4 (by decide) ?_
  refine z_bipush (v := 23) C d_X12_ofPool_6 (by decide) ?_
  refine z_iload_n (j := 1) C d_X12_ofPool_8 rfl ?_
  refine z_imul C d_X12_ofPool_9 ?_
  refine z_iadd C d_X12_ofPool_10 ?_
  refine z_iload_n (j := 2) C d_X12_ofPool_11 rfl ?_
  refine z_iadd C d_X12_ofPool_12 ?_
  obtain ⟨hi13_0, hf⟩ := gd hf
  refine z_lald C rfl hi13_0 d_X12_ofPool_13 ?_
  exact r_l C hr d_X12_ofPool_14 hf
theorem d_X12_setPool_0 : decode cX12_setPool 0 = .ok (.aload_n 0, 1) := by decide +kernel
theorem d_X12_setPool_1 : decode cX12_setPool 1 = .ok (.getfield 17, 3) := by decide +kernel
theorem d_X12_setPool_4 : decode cX12_setPool 4 = .ok (.bipush 22, 2) := by decide +kernel
theorem d_X12_setPool_6 : decode cX12_setPool 6 = .ok (.bipush 23, 2) := by decide +kernel
theorem d_X12_setPool_8 : decode cX12_setPool 8 = .ok (.iload_n 1, 1) := by decide +kernel
theorem d_X12_setPool_9 : decode cX12_setPool 9 = .ok (.imul, 1) := by decide +kernel
theorem d_X12_setPool_10 : decode cX12_setPool 10 = .ok (.iadd, 1) := by decide +kernel
theorem d_X12_setPool_11 : decode cX12_setPool 11 = .ok (.iload_n 2, 1) := by decide +kernel
theorem d_X12_setPool_12 : decode cX12_setPool 12 = .ok (.iadd, 1) := by decide +kernel
theorem d_X12_setPool_13 : decode cX12_setPool 13 = .ok (.lload_n 3, 1) := by decide +kernel
theorem d_X12_setPool_14 : decode cX12_setPool 14 = .ok (.lastore, 1) := by decide +kernel
theorem d_X12_setPool_15 : decode cX12_setPool 15 = .ok (.return_, 1) := by decide +kernel
/-- TickPoolsModel.setPool(IIJ)V -/
def f_X12_setPool (p1 : Int32) (p2 : Int32) (p3 : Int64) (S : Mem) : Option (Unit × Mem) := (if inb ((22 + (23 * p1)) + p2) 258 = true then (some ((), (sL S 23 ((((22 + (23 * p1)) + p2) : Int32).toNatClampNeg) p3))) else none)
set_option maxRecDepth 20000 in
theorem c_X12_setPool {l : Launch} {Γ : GG} (hI : Inj Γ) {p1 : Int32} {p2 : Int32} {p3 : Int64} {S : Mem} {q : Unit × Mem} (hf : f_X12_setPool p1 p2 p3 S = some q) : MM l Γ yX12_setPool cX12_setPool 5 (none) 0 0 [aR 20, aI p1, aI p2, aJ p3] S none q.2 := by
  refine met_of hI "TickPoolsModel" rfl (by decide +kernel) (Nat.le_of_ble_eq_true rfl) (fun X hX C hr => ?_)
  unfold f_X12_setPool at hf
  show ZZ X Γ 5 _ S 0 [(0, aR 20), (1, aI p1), (2, aI p2), (3, aJ p3)] []
  refine z_aload_n (j := 0) C d_X12_setPool_0 rfl ?_
  refine zg_X12_now C rfl tw_1216 d_X12_setPool_1 ?_
  refine z_bipush (v := 22) C d_X12_setPool_4 (by decide) ?_
  refine z_bipush (v := 23) C d_X12_setPool_6 (by decide) ?_
  refine z_iload_n (j := 1) C d_X12_setPool_8 rfl ?_
  refine z_imul C d_X12_setPool_9 ?_
  refine z_iadd C d_X12_setPool_10 ?_
  refine z_iload_n (j := 2) C d_X12_setPool_11 rfl ?_
  refine z_iadd C d_X12_setPool_12 ?_
  refine z_lload_n (j := 3) C d_X12_setPool_13 rfl ?_
  obtain ⟨hi14_0, hf⟩ := gd hf
  refine z_last C rfl hi14_0 d_X12_setPool_14 ?_
  exact r_v C hr d_X12_setPool_15 hf
theorem d_X12_morePool_0 : decode cX12_morePool 0 = .ok (.aload_n 0, 1) := by decide +kernel
theorem d_X12_morePool_1 : decode cX12_morePool 1 = .ok (.getfield 17, 3) := by decide +kernel
theorem d_X12_morePool_4 : decode cX12_morePool 4 = .ok (.bipush 22, 2) := by decide +kernel
theorem d_X12_morePool_6 : decode cX12_morePool 6 = .ok (.bipush 23, 2) := by decide +kernel
theorem d_X12_morePool_8 : decode cX12_morePool 8 = .ok (.iload_n 1, 1) := by decide +kernel
theorem d_X12_morePool_9 : decode cX12_morePool 9 = .ok (.imul, 1) := by decide +kernel
theorem d_X12_morePool_10 : decode cX12_morePool 10 = .ok (.iadd, 1) := by decide +kernel
theorem d_X12_morePool_11 : decode cX12_morePool 11 = .ok (.iload_n 2, 1) := by decide +kernel
theorem d_X12_morePool_12 : decode cX12_morePool 12 = .ok (.iadd, 1) := by decide +kernel
theorem d_X12_morePool_13 : decode cX12_morePool 13 = .ok (.dup2, 1) := by decide +kernel
theorem d_X12_morePool_14 : decode cX12_morePool 14 = .ok (.laload, 1) := by decide +kernel
theorem d_X12_morePool_15 : decode cX12_morePool 15 = .ok (.lload_n 3, 1) := by decide +kernel
theorem d_X12_morePool_16 : decode cX12_morePool 16 = .ok (.ladd, 1) := by decide +kernel
theorem d_X12_morePool_17 : decode cX12_morePool 17 = .ok (.lastore, 1) := by decide +kernel
theorem d_X12_morePool_18 : decode cX12_morePool 18 = .ok (.return_, 1) := by decide +kernel
/-- TickPoolsModel.morePool(IIJ)V -/
def f_X12_morePool (p1 : Int32) (p2 : Int32) (p3 : Int64) (S : Mem) : Option (Unit × Mem) := (if inb ((22 + (23 * p1)) + p2) 258 = true then (if inb ((22 + (23 * p1)) + p2) 258 = true then (some ((), (sL S 23 ((((22 + (23 * p1)) + p2) : Int32).toNatClampNeg) ((gL S 23 ((((22 + (23 * p1)) + p2) : Int32).toNatClampNeg)) + p3)))) else none) else none)
set_option maxRecDepth 20000 in
theorem c_X12_morePool {l : Launch} {Γ : GG} (hI : Inj Γ) {p1 : Int32} {p2 : Int32} {p3 : Int64} {S : Mem} {q : Unit × Mem} (hf : f_X12_morePool p1 p2 p3 S = some q) : MM l Γ yX12_morePool cX12_morePool 5 (none) 0 0 [aR 20, aI p1, aI p2, aJ p3] S none q.2 := by
  refine met_of hI "TickPoolsModel" rfl (by decide +kernel) (Nat.le_of_ble_eq_true rfl) (fun X hX C hr => ?_)
  unfold f_X12_morePool at hf
  show ZZ X Γ 5 _ S 0 [(0, aR 20), (1, aI p1), (2, aI p2), (3, aJ p3)] []
  refine z_aload_n (j := 0) C d_X12_morePool_0 rfl ?_
  refine zg_X12_now C rfl tw_1216 d_X12_morePool_1 ?_
  refine z_bipush (v := 22) C d_X12_morePool_4 (by decide) ?_
  refine z_bipush (v := 23) C d_X12_morePool_6 (by decide) ?_
  refine z_iload_n (j := 1) C d_X12_morePool_8 rfl ?_
  refine z_imul C d_X12_morePool_9 ?_
  refine z_iadd C d_X12_morePool_10 ?_
  refine z_iload_n (j := 2) C d_X12_morePool_11 rfl ?_
  refine z_iadd C d_X12_morePool_12 ?_
  refine z_dup2_11 C d_X12_morePool_13 rfl rfl ?_
  obtain ⟨hi14_0, hf⟩ := gd hf
  refine z_lald C rfl hi14_0 d_X12_morePool_14 ?_
  refine z_lload_n (j := 3) C d_X12_morePool_15 rfl ?_
  refine z_ladd C d_X12_morePool_16 ?_
  obtain ⟨hi17_1, hf⟩ := gd hf
  refine z_last C rfl hi17_1 d_X12_morePool_17 ?_
  exact r_v C hr d_X12_morePool_18 hf
theorem d_X12_ofStake_0 : decode cX12_ofStake 0 = .ok (.aload_n 0, 1) := by decide +kernel
theorem d_X12_ofStake_1 : decode cX12_ofStake 1 = .ok (.getfield 17, 3) := by decide +kernel
theorem d_X12_ofStake_4 : decode cX12_ofStake 4 = .ok (.sipush 138, 3) := by decide +kernel
theorem d_X12_ofStake_7 : decode cX12_ofStake 7 = .ok (.bipush 10, 2) := by decide +kernel
theorem d_X12_ofStake_9 : decode cX12_ofStake 9 = .ok (.iload_n 1, 1) := by decide +kernel
theorem d_X12_ofStake_10 : decode cX12_ofStake 10 = .ok (.imul, 1) := by decide +kernel
theorem d_X12_ofStake_11 : decode cX12_ofStake 11 = .ok (.iadd, 1) := by decide +kernel
theorem d_X12_ofStake_12 : decode cX12_ofStake 12 = .ok (.iload_n 2, 1) := by decide +kernel
theorem d_X12_ofStake_13 : decode cX12_ofStake 13 = .ok (.iadd, 1) := by decide +kernel
theorem d_X12_ofStake_14 : decode cX12_ofStake 14 = .ok (.laload, 1) := by decide +kernel
theorem d_X12_ofStake_15 : decode cX12_ofStake 15 = .ok (.lreturn, 1) := by decide +kernel
/-- TickPoolsModel.ofStake(II)J -/
def f_X12_ofStake (p1 : Int32) (p2 : Int32) (S : Mem) : Option (Int64 × Mem) := (if inb ((138 + (10 * p1)) + p2) 258 = true then (some ((gL S 23 ((((138 + (10 * p1)) + p2) : Int32).toNatClampNeg)), S)) else none)
set_option maxRecDepth 20000 in
theorem c_X12_ofStake {l : Launch} {Γ : GG} (hI : Inj Γ) {p1 : Int32} {p2 : Int32} {S : Mem} {q : Int64 × Mem} (hf : f_X12_ofStake p1 p2 S = some q) : MM l Γ yX12_ofStake cX12_ofStake 3 (some .long) 0 0 [aR 20, aI p1, aI p2] S (some (aJ q.1)) q.2 := by
  refine met_of hI "TickPoolsModel" rfl (by decide +kernel) (Nat.le_of_ble_eq_true rfl) (fun X hX C hr => ?_)
  unfold f_X12_ofStake at hf
  show ZZ X Γ 3 _ S 0 [(0, aR 20), (1, aI p1), (2, aI p2)] []
  refine z_aload_n (j := 0) C d_X12_ofStake_0 rfl ?_
  refine zg_X12_now C rfl tw_1216 d_X12_ofStake_1 ?_
  refine z_sipush (v := 138) C d_X12_ofStake_4 (by decide) ?_
  refine z_bipush (v := 10) C d_X12_ofStake_7 (by decide) ?_
  refine z_iload_n (j := 1) C d_X12_ofStake_9 rfl ?_
  refine z_imul C d_X12_ofStake_10 ?_
  refine z_iadd C d_X12_ofStake_11 ?_
  refine z_iload_n (j := 2) C d_X12_ofStake_12 rfl ?_
  refine z_iadd C d_X12_ofStake_13 ?_
  obtain ⟨hi14_0, hf⟩ := gd hf
  refine z_lald C rfl hi14_0 d_X12_ofStake_14 ?_
  exact r_l C hr d_X12_ofStake_15 hf
theorem d_X12_setStake_0 : decode cX12_setStake 0 = .ok (.aload_n 0, 1) := by decide +kernel
theorem d_X12_setStake_1 : decode cX12_setStake 1 = .ok (.getfield 17, 3) := by decide +kernel
theorem d_X12_setStake_4 : decode cX12_setStake 4 = .ok (.sipush 138, 3) := by decide +kernel
theorem d_X12_setStake_7 : decode cX12_setStake 7 = .ok (.bipush 10, 2) := by decide +kernel
theorem d_X12_setStake_9 : decode cX12_setStake 9 = .ok (.iload_n 1, 1) := by decide +kernel
theorem d_X12_setStake_10 : decode cX12_setStake 10 = .ok (.imul, 1) := by decide +kernel
theorem d_X12_setStake_11 : decode cX12_setStake 11 = .ok (.iadd, 1) := by decide +kernel
theorem d_X12_setStake_12 : decode cX12_setStake 12 = .ok (.iload_n 2, 1) := by decide +kernel
theorem d_X12_setStake_13 : decode cX12_setStake 13 = .ok (.iadd, 1) := by decide +kernel
theorem d_X12_setStake_14 : decode cX12_setStake 14 = .ok (.lload_n 3, 1) := by decide +kernel
theorem d_X12_setStake_15 : decode cX12_setStake 15 = .ok (.lastore, 1) := by decide +kernel
theorem d_X12_setStake_16 : decode cX12_setStake 16 = .ok (.return_, 1) := by decide +kernel
/-- TickPoolsModel.setStake(IIJ)V -/
def f_X12_setStake (p1 : Int32) (p2 : Int32) (p3 : Int64) (S : Mem) : Option (Unit × Mem) := (if inb ((138 + (10 * p1)) + p2) 258 = true then (some ((), (sL S 23 ((((138 + (10 * p1)) + p2) : Int32).toNatClampNeg) p3))) else none)
set_option maxRecDepth 20000 in
theorem c_X12_setStake {l : Launch} {Γ : GG} (hI : Inj Γ) {p1 : Int32} {p2 : Int32} {p3 : Int64} {S : Mem} {q : Unit × Mem} (hf : f_X12_setStake p1 p2 p3 S = some q) : MM l Γ yX12_setStake cX12_setStake 5 (none) 0 0 [aR 20, aI p1, aI p2, aJ p3] S none q.2 := by
  refine met_of hI "TickPoolsModel" rfl (by decide +kernel) (Nat.le_of_ble_eq_true rfl) (fun X hX C hr => ?_)
  unfold f_X12_setStake at hf
  show ZZ X Γ 5 _ S 0 [(0, aR 20), (1, aI p1), (2, aI p2), (3, aJ p3)] []
  refine z_aload_n (j := 0) C d_X12_setStake_0 rfl ?_
  refine zg_X12_now C rfl tw_1216 d_X12_setStake_1 ?_
  refine z_sipush (v := 138) C d_X12_setStake_4 (by decide) ?_
  refine z_bipush (v := 10) C d_X12_setStake_7 (by decide) ?_
  refine z_iload_n (j := 1) C d_X12_setStake_9 rfl ?_
  refine z_imul C d_X12_setStake_10 ?_
  refine z_iadd C d_X12_setStake_11 ?_
  refine z_iload_n (j := 2) C d_X12_setStake_12 rfl ?_
  refine z_iadd C d_X12_setStake_13 ?_
  refine z_lload_n (j := 3) C d_X12_setStake_14 rfl ?_
  obtain ⟨hi15_0, hf⟩ := gd hf
  refine z_last C rfl hi15_0 d_X12_setStake_15 ?_
  exact r_v C hr d_X12_setStake_16 hf
theorem d_X12_stakes_0 : decode cX12_stakes 0 = .ok (.aload_n 0, 1) := by decide +kernel
theorem d_X12_stakes_1 : decode cX12_stakes 1 = .ok (.getfield 17, 3) := by decide +kernel
theorem d_X12_stakes_4 : decode cX12_stakes 4 = .ok (.sipush 137, 3) := by decide +kernel
theorem d_X12_stakes_7 : decode cX12_stakes 7 = .ok (.laload, 1) := by decide +kernel
theorem d_X12_stakes_8 : decode cX12_stakes 8 = .ok (.l2i, 1) := by decide +kernel
theorem d_X12_stakes_9 : decode cX12_stakes 9 = .ok (.ireturn, 1) := by decide +kernel
/-- TickPoolsModel.stakes()I -/
def f_X12_stakes (S : Mem) : Option (Int32 × Mem) := (some ((((gL S 23 ((137 : Int32).toNatClampNeg)) : Int64).toInt32), S))
set_option maxRecDepth 20000 in
theorem c_X12_stakes {l : Launch} {Γ : GG} (hI : Inj Γ) {S : Mem} {q : Int32 × Mem} (hf : f_X12_stakes S = some q) : MM l Γ yX12_stakes cX12_stakes 1 (some .int) 0 0 [aR 20] S (some (aI q.1)) q.2 := by
  refine met_of hI "TickPoolsModel" rfl (by decide +kernel) (Nat.le_of_ble_eq_true rfl) (fun X hX C hr => ?_)
  unfold f_X12_stakes at hf
  show ZZ X Γ 1 _ S 0 [(0, aR 20)] []
  refine z_aload_n (j := 0) C d_X12_stakes_0 rfl ?_
  refine zg_X12_now C rfl tw_1216 d_X12_stakes_1 ?_
  refine z_sipush (v := 137) C d_X12_stakes_4 (by decide) ?_
  refine z_lald C rfl (by decide) d_X12_stakes_7 ?_
  refine z_l2i C d_X12_stakes_8 ?_
  exact r_i C hr rfl d_X12_stakes_9 hf
theorem d_X12_zoneNow_0 : decode cX12_zoneNow 0 = .ok (.aload_n 0, 1) := by decide +kernel
theorem d_X12_zoneNow_1 : decode cX12_zoneNow 1 = .ok (.iload_n 1, 1) := by decide +kernel
theorem d_X12_zoneNow_2 : decode cX12_zoneNow 2 = .ok (.iconst 1, 1) := by decide +kernel
theorem d_X12_zoneNow_3 : decode cX12_zoneNow 3 = .ok (.invokevirtual 116, 3) := by decide +kernel
theorem d_X12_zoneNow_6 : decode cX12_zoneNow 6 = .ok (.l2i, 1) := by decide +kernel
theorem d_X12_zoneNow_7 : decode cX12_zoneNow 7 = .ok (.ireturn, 1) := by decide +kernel
/-- TickPoolsModel.zoneNow(I)I -/
def f_X12_zoneNow (p1 : Int32) (S : Mem) : Option (Int32 × Mem) := ((f_X12_ofPool p1 1 S).bind fun q3 => (some (((q3.1 : Int64).toInt32), q3.2)))
set_option maxRecDepth 20000 in
theorem c_X12_zoneNow {l : Launch} {Γ : GG} (hI : Inj Γ) {p1 : Int32} {S : Mem} {q : Int32 × Mem} (hf : f_X12_zoneNow p1 S = some q) : MM l Γ yX12_zoneNow cX12_zoneNow 2 (some .int) 1 22 [aR 20, aI p1] S (some (aI q.1)) q.2 := by
  refine met_of hI "TickPoolsModel" rfl (by decide +kernel) (Nat.le_of_ble_eq_true rfl) (fun X hX C hr => ?_)
  unfold f_X12_zoneNow at hf
  show ZZ X Γ 2 _ S 0 [(0, aR 20), (1, aI p1)] []
  refine z_aload_n (j := 0) C d_X12_zoneNow_0 rfl ?_
  refine z_iload_n (j := 1) C d_X12_zoneNow_1 rfl ?_
  refine z_iconst (v := 1) C d_X12_zoneNow_2 (by decide) ?_
  obtain ⟨q3, hF, hf⟩ := bd hf
  refine z_callV1 (rest := []) C [aI p1, aI 1] rfl (by decide) rfl rfl k_X12_ofPool tw_1503 ⟨by decide, by decide⟩ (Nat.le_of_ble_eq_true rfl) d_X12_zoneNow_3 (c_X12_ofPool C.inj hF) rfl ?_
  refine z_l2i C d_X12_zoneNow_6 ?_
  exact r_i C hr rfl d_X12_zoneNow_7 hf
theorem d_X12_thingOf_0 : decode cX12_thingOf 0 = .ok (.aload_n 0, 1) := by decide +kernel
theorem d_X12_thingOf_1 : decode cX12_thingOf 1 = .ok (.getfield 13, 3) := by decide +kernel
theorem d_X12_thingOf_4 : decode cX12_thingOf 4 = .ok (.iconst 5, 1) := by decide +kernel
theorem d_X12_thingOf_5 : decode cX12_thingOf 5 = .ok (.iload_n 1, 1) := by decide +kernel
theorem d_X12_thingOf_6 : decode cX12_thingOf 6 = .ok (.imul, 1) := by decide +kernel
theorem d_X12_thingOf_7 : decode cX12_thingOf 7 = .ok (.iload_n 2, 1) := by decide +kernel
theorem d_X12_thingOf_8 : decode cX12_thingOf 8 = .ok (.iadd, 1) := by decide +kernel
theorem d_X12_thingOf_9 : decode cX12_thingOf 9 = .ok (.iaload, 1) := by decide +kernel
theorem d_X12_thingOf_10 : decode cX12_thingOf 10 = .ok (.ireturn, 1) := by decide +kernel
/-- TickPoolsModel.thingOf(II)I -/
def f_X12_thingOf (p1 : Int32) (p2 : Int32) (S : Mem) : Option (Int32 × Mem) := (if inb ((5 * p1) + p2) 25 = true then (some ((gI S 22 ((((5 * p1) + p2) : Int32).toNatClampNeg)), S)) else none)
set_option maxRecDepth 20000 in
theorem c_X12_thingOf {l : Launch} {Γ : GG} (hI : Inj Γ) {p1 : Int32} {p2 : Int32} {S : Mem} {q : Int32 × Mem} (hf : f_X12_thingOf p1 p2 S = some q) : MM l Γ yX12_thingOf cX12_thingOf 3 (some .int) 0 0 [aR 20, aI p1, aI p2] S (some (aI q.1)) q.2 := by
  refine met_of hI "TickPoolsModel" rfl (by decide +kernel) (Nat.le_of_ble_eq_true rfl) (fun X hX C hr => ?_)
  unfold f_X12_thingOf at hf
  show ZZ X Γ 3 _ S 0 [(0, aR 20), (1, aI p1), (2, aI p2)] []
  refine z_aload_n (j := 0) C d_X12_thingOf_0 rfl ?_
  refine zg_X12_told C rfl tw_1215 d_X12_thingOf_1 ?_
  refine z_iconst (v := 5) C d_X12_thingOf_4 (by decide) ?_
  refine z_iload_n (j := 1) C d_X12_thingOf_5 rfl ?_
  refine z_imul C d_X12_thingOf_6 ?_
  refine z_iload_n (j := 2) C d_X12_thingOf_7 rfl ?_
  refine z_iadd C d_X12_thingOf_8 ?_
  obtain ⟨hi9_0, hf⟩ := gd hf
  refine z_iald C rfl hi9_0 d_X12_thingOf_9 ?_
  exact r_i C hr rfl d_X12_thingOf_10 hf
theorem d_X12_inPurse_0 : decode cX12_inPurse 0 = .ok (.aload_n 0, 1) := by decide +kernel
theorem d_X12_inPurse_1 : decode cX12_inPurse 1 = .ok (.getfield 17, 3) := by decide +kernel
theorem d_X12_inPurse_4 : decode cX12_inPurse 4 = .ok (.iconst 2, 1) := by decide +kernel
theorem d_X12_inPurse_5 : decode cX12_inPurse 5 = .ok (.iconst 5, 1) := by decide +kernel
theorem d_X12_inPurse_6 : decode cX12_inPurse 6 = .ok (.iload_n 1, 1) := by decide +kernel
theorem d_X12_inPurse_7 : decode cX12_inPurse 7 = .ok (.imul, 1) := by decide +kernel
theorem d_X12_inPurse_8 : decode cX12_inPurse 8 = .ok (.iadd, 1) := by decide +kernel
theorem d_X12_inPurse_9 : decode cX12_inPurse 9 = .ok (.iload_n 2, 1) := by decide +kernel
theorem d_X12_inPurse_10 : decode cX12_inPurse 10 = .ok (.iadd, 1) := by decide +kernel
theorem d_X12_inPurse_11 : decode cX12_inPurse 11 = .ok (.laload, 1) := by decide +kernel
theorem d_X12_inPurse_12 : decode cX12_inPurse 12 = .ok (.lreturn, 1) := by decide +kernel
/-- TickPoolsModel.inPurse(II)J -/
def f_X12_inPurse (p1 : Int32) (p2 : Int32) (S : Mem) : Option (Int64 × Mem) := (if inb ((2 + (5 * p1)) + p2) 258 = true then (some ((gL S 23 ((((2 + (5 * p1)) + p2) : Int32).toNatClampNeg)), S)) else none)
set_option maxRecDepth 20000 in
theorem c_X12_inPurse {l : Launch} {Γ : GG} (hI : Inj Γ) {p1 : Int32} {p2 : Int32} {S : Mem} {q : Int64 × Mem} (hf : f_X12_inPurse p1 p2 S = some q) : MM l Γ yX12_inPurse cX12_inPurse 3 (some .long) 0 0 [aR 20, aI p1, aI p2] S (some (aJ q.1)) q.2 := by
  refine met_of hI "TickPoolsModel" rfl (by decide +kernel) (Nat.le_of_ble_eq_true rfl) (fun X hX C hr => ?_)
  unfold f_X12_inPurse at hf
  show ZZ X Γ 3 _ S 0 [(0, aR 20), (1, aI p1), (2, aI p2)] []
  refine z_aload_n (j := 0) C d_X12_inPurse_0 rfl ?_
  refine zg_X12_now C rfl tw_1216 d_X12_inPurse_1 ?_
  refine z_iconst (v := 2) C d_X12_inPurse_4 (by decide) ?_
  refine z_iconst (v := 5) C d_X12_inPurse_5 (by decide) ?_
  refine z_iload_n (j := 1) C d_X12_inPurse_6 rfl ?_
  refine z_imul C d_X12_inPurse_7 ?_
  refine z_iadd C d_X12_inPurse_8 ?_
  refine z_iload_n (j := 2) C d_X12_inPurse_9 rfl ?_
  refine z_iadd C d_X12_inPurse_10 ?_
  obtain ⟨hi11_0, hf⟩ := gd hf
  refine z_lald C rfl hi11_0 d_X12_inPurse_11 ?_
  exact r_l C hr d_X12_inPurse_12 hf
theorem d_X12_morePurse_0 : decode cX12_morePurse 0 = .ok (.aload_n 0, 1) := by decide +kernel
theorem d_X12_morePurse_1 : decode cX12_morePurse 1 = .ok (.getfield 17, 3) := by decide +kernel
theorem d_X12_morePurse_4 : decode cX12_morePurse 4 = .ok (.iconst 2, 1) := by decide +kernel
theorem d_X12_morePurse_5 : decode cX12_morePurse 5 = .ok (.iconst 5, 1) := by decide +kernel
theorem d_X12_morePurse_6 : decode cX12_morePurse 6 = .ok (.iload_n 1, 1) := by decide +kernel
theorem d_X12_morePurse_7 : decode cX12_morePurse 7 = .ok (.imul, 1) := by decide +kernel
theorem d_X12_morePurse_8 : decode cX12_morePurse 8 = .ok (.iadd, 1) := by decide +kernel
theorem d_X12_morePurse_9 : decode cX12_morePurse 9 = .ok (.iload_n 2, 1) := by decide +kernel
theorem d_X12_morePurse_10 : decode cX12_morePurse 10 = .ok (.iadd, 1) := by decide +kernel
theorem d_X12_morePurse_11 : decode cX12_morePurse 11 = .ok (.dup2, 1) := by decide +kernel
theorem d_X12_morePurse_12 : decode cX12_morePurse 12 = .ok (.laload, 1) := by decide +kernel
theorem d_X12_morePurse_13 : decode cX12_morePurse 13 = .ok (.lload_n 3, 1) := by decide +kernel
theorem d_X12_morePurse_14 : decode cX12_morePurse 14 = .ok (.ladd, 1) := by decide +kernel
theorem d_X12_morePurse_15 : decode cX12_morePurse 15 = .ok (.lastore, 1) := by decide +kernel
theorem d_X12_morePurse_16 : decode cX12_morePurse 16 = .ok (.return_, 1) := by decide +kernel
/-- TickPoolsModel.morePurse(IIJ)V -/
def f_X12_morePurse (p1 : Int32) (p2 : Int32) (p3 : Int64) (S : Mem) : Option (Unit × Mem) := (if inb ((2 + (5 * p1)) + p2) 258 = true then (if inb ((2 + (5 * p1)) + p2) 258 = true then (some ((), (sL S 23 ((((2 + (5 * p1)) + p2) : Int32).toNatClampNeg) ((gL S 23 ((((2 + (5 * p1)) + p2) : Int32).toNatClampNeg)) + p3)))) else none) else none)
set_option maxRecDepth 20000 in
theorem c_X12_morePurse {l : Launch} {Γ : GG} (hI : Inj Γ) {p1 : Int32} {p2 : Int32} {p3 : Int64} {S : Mem} {q : Unit × Mem} (hf : f_X12_morePurse p1 p2 p3 S = some q) : MM l Γ yX12_morePurse cX12_morePurse 5 (none) 0 0 [aR 20, aI p1, aI p2, aJ p3] S none q.2 := by
  refine met_of hI "TickPoolsModel" rfl (by decide +kernel) (Nat.le_of_ble_eq_true rfl) (fun X hX C hr => ?_)
  unfold f_X12_morePurse at hf
  show ZZ X Γ 5 _ S 0 [(0, aR 20), (1, aI p1), (2, aI p2), (3, aJ p3)] []
  refine z_aload_n (j := 0) C d_X12_morePurse_0 rfl ?_
  refine zg_X12_now C rfl tw_1216 d_X12_morePurse_1 ?_
  refine z_iconst (v := 2) C d_X12_morePurse_4 (by decide) ?_
  refine z_iconst (v := 5) C d_X12_morePurse_5 (by decide) ?_
  refine z_iload_n (j := 1) C d_X12_morePurse_6 rfl ?_
  refine z_imul C d_X12_morePurse_7 ?_
  refine z_iadd C d_X12_morePurse_8 ?_
  refine z_iload_n (j := 2) C d_X12_morePurse_9 rfl ?_
  refine z_iadd C d_X12_morePurse_10 ?_
  refine z_dup2_11 C d_X12_morePurse_11 rfl rfl ?_
  obtain ⟨hi12_0, hf⟩ := gd hf
  refine z_lald C rfl hi12_0 d_X12_morePurse_12 ?_
  refine z_lload_n (j := 3) C d_X12_morePurse_13 rfl ?_
  refine z_ladd C d_X12_morePurse_14 ?_
  obtain ⟨hi15_1, hf⟩ := gd hf
  refine z_last C rfl hi15_1 d_X12_morePurse_15 ?_
  exact r_v C hr d_X12_morePurse_16 hf
theorem d_X12_isPool_0 : decode cX12_isPool 0 = .ok (.iload_n 1, 1) := by decide +kernel
theorem d_X12_isPool_1 : decode cX12_isPool 1 = .ok (.ifCond .lt 15, 3) := by decide +kernel
theorem d_X12_isPool_4 : decode cX12_isPool 4 = .ok (.iload_n 1, 1) := by decide +kernel
theorem d_X12_isPool_5 : decode cX12_isPool 5 = .ok (.aload_n 0, 1) := by decide +kernel
theorem d_X12_isPool_6 : decode cX12_isPool 6 = .ok (.getfield 120, 3) := by decide +kernel
theorem d_X12_isPool_9 : decode cX12_isPool 9 = .ok (.if_icmp .ge 7, 3) := by decide +kernel
theorem d_X12_isPool_12 : decode cX12_isPool 12 = .ok (.iconst 1, 1) := by decide +kernel
theorem d_X12_isPool_13 : decode cX12_isPool 13 = .ok (.goto 4, 3) := by decide +kernel
theorem d_X12_isPool_16 : decode cX12_isPool 16 = .ok (.iconst 0, 1) := by decide +kernel
theorem d_X12_isPool_17 : decode cX12_isPool 17 = .ok (.ireturn, 1) := by decide +kernel
def f_X12_isPool_17 (s0 : Int32) (S : Mem) : Option (Int32 × Mem) := (if isB s0 = true then (some (s0, S)) else none)
set_option maxRecDepth 20000 in
theorem t_X12_isPool_17 {X : MC} {Γ : GG} (C : CX X Γ cX12_isPool 2 "TickPoolsModel" 0 0) (hr : X.2.2.2.2.2.2.2.2.1.sig.returnType = some .boolean) {q : Int32 × Mem} (s0 : Int32) (S : Mem) (hf : f_X12_isPool_17 s0 S = some q) : ZZ X Γ 2 (QQ X Γ (some (aI q.1)) q.2) S 17 [] [aI s0] := by
  unfold f_X12_isPool_17 at hf
  obtain ⟨hb17_0, hf⟩ := gd hf
  exact r_i C hr (isB_nar hb17_0).1 d_X12_isPool_17 hf
def f_X12_isPool_16 (S : Mem) : Option (Int32 × Mem) := (f_X12_isPool_17  0 S)
set_option maxRecDepth 20000 in
theorem t_X12_isPool_16 {X : MC} {Γ : GG} (C : CX X Γ cX12_isPool 2 "TickPoolsModel" 0 0) (hr : X.2.2.2.2.2.2.2.2.1.sig.returnType = some .boolean) {q : Int32 × Mem} (S : Mem) (hf : f_X12_isPool_16 S = some q) : ZZ X Γ 2 (QQ X Γ (some (aI q.1)) q.2) S 16 [] [] := by
  unfold f_X12_isPool_16 at hf
  refine z_iconst (v := 0) C d_X12_isPool_16 (by decide) ?_
  exact z_sub [] rfl (t_X12_isPool_17 C hr  _ _ hf)
/-- TickPoolsModel.isPool(I)Z -/
def f_X12_isPool (p1 : Int32) (S : Mem) : Option (Int32 × Mem) := (if p1 < 0 then (f_X12_isPool_16  S) else (if (gI S 20 3) ≤ p1 then (f_X12_isPool_16  S) else (f_X12_isPool_17  1 S)))
set_option maxRecDepth 20000 in
theorem c_X12_isPool {l : Launch} {Γ : GG} (hI : Inj Γ) {p1 : Int32} {S : Mem} {q : Int32 × Mem} (hf : f_X12_isPool p1 S = some q) : MM l Γ yX12_isPool cX12_isPool 2 (some .boolean) 0 0 [aR 20, aI p1] S (some (aI q.1)) q.2 := by
  refine met_of hI "TickPoolsModel" rfl (by decide +kernel) (Nat.le_of_ble_eq_true rfl) (fun X hX C hr => ?_)
  unfold f_X12_isPool at hf
  show ZZ X Γ 2 _ S 0 [(0, aR 20), (1, aI p1)] []
  refine z_iload_n (j := 1) C d_X12_isPool_0 rfl ?_
  refine z_if_lt (tgt := 16) C d_X12_isPool_1 (by decide) hf (fun c1 hf => ?_) (fun c1 hf => ?_)
  · exact z_sub [] rfl (t_X12_isPool_16 C hr  _ hf)
  · refine z_iload_n (j := 1) C d_X12_isPool_4 rfl ?_
    refine z_aload_n (j := 0) C d_X12_isPool_5 rfl ?_
    refine zg_X12_pools C rfl tw_1214 d_X12_isPool_6 ?_
    refine z_icmp_ge (tgt := 16) C d_X12_isPool_9 (by decide) hf (fun c9 hf => ?_) (fun c9 hf => ?_)
    · exact z_sub [] rfl (t_X12_isPool_16 C hr  _ hf)
    · refine z_iconst (v := 1) C d_X12_isPool_12 (by decide) ?_
      refine z_goto (tgt := 17) C d_X12_isPool_13 (by decide) ?_
      exact z_sub [] rfl (t_X12_isPool_17 C hr  _ _ hf)
theorem d_X12_isPerson_0 : decode cX12_isPerson 0 = .ok (.iload_n 1, 1) := by decide +kernel
theorem d_X12_isPerson_1 : decode cX12_isPerson 1 = .ok (.ifCond .lt 15, 3) := by decide +kernel
theorem d_X12_isPerson_4 : decode cX12_isPerson 4 = .ok (.iload_n 1, 1) := by decide +kernel
theorem d_X12_isPerson_5 : decode cX12_isPerson 5 = .ok (.aload_n 0, 1) := by decide +kernel
theorem d_X12_isPerson_6 : decode cX12_isPerson 6 = .ok (.getfield 124, 3) := by decide +kernel
theorem d_X12_isPerson_9 : decode cX12_isPerson 9 = .ok (.if_icmp .ge 7, 3) := by decide +kernel
theorem d_X12_isPerson_12 : decode cX12_isPerson 12 = .ok (.iconst 1, 1) := by decide +kernel
theorem d_X12_isPerson_13 : decode cX12_isPerson 13 = .ok (.goto 4, 3) := by decide +kernel
theorem d_X12_isPerson_16 : decode cX12_isPerson 16 = .ok (.iconst 0, 1) := by decide +kernel
theorem d_X12_isPerson_17 : decode cX12_isPerson 17 = .ok (.ireturn, 1) := by decide +kernel
def f_X12_isPerson_17 (s0 : Int32) (S : Mem) : Option (Int32 × Mem) := (if isB s0 = true then (some (s0, S)) else none)
set_option maxRecDepth 20000 in
theorem t_X12_isPerson_17 {X : MC} {Γ : GG} (C : CX X Γ cX12_isPerson 2 "TickPoolsModel" 0 0) (hr : X.2.2.2.2.2.2.2.2.1.sig.returnType = some .boolean) {q : Int32 × Mem} (s0 : Int32) (S : Mem) (hf : f_X12_isPerson_17 s0 S = some q) : ZZ X Γ 2 (QQ X Γ (some (aI q.1)) q.2) S 17 [] [aI s0] := by
  unfold f_X12_isPerson_17 at hf
  obtain ⟨hb17_0, hf⟩ := gd hf
  exact r_i C hr (isB_nar hb17_0).1 d_X12_isPerson_17 hf
def f_X12_isPerson_16 (S : Mem) : Option (Int32 × Mem) := (f_X12_isPerson_17  0 S)
set_option maxRecDepth 20000 in
theorem t_X12_isPerson_16 {X : MC} {Γ : GG} (C : CX X Γ cX12_isPerson 2 "TickPoolsModel" 0 0) (hr : X.2.2.2.2.2.2.2.2.1.sig.returnType = some .boolean) {q : Int32 × Mem} (S : Mem) (hf : f_X12_isPerson_16 S = some q) : ZZ X Γ 2 (QQ X Γ (some (aI q.1)) q.2) S 16 [] [] := by
  unfold f_X12_isPerson_16 at hf
  refine z_iconst (v := 0) C d_X12_isPerson_16 (by decide) ?_
  exact z_sub [] rfl (t_X12_isPerson_17 C hr  _ _ hf)
/-- TickPoolsModel.isPerson(I)Z -/
def f_X12_isPerson (p1 : Int32) (S : Mem) : Option (Int32 × Mem) := (if p1 < 0 then (f_X12_isPerson_16  S) else (if (gI S 20 2) ≤ p1 then (f_X12_isPerson_16  S) else (f_X12_isPerson_17  1 S)))
set_option maxRecDepth 20000 in
theorem c_X12_isPerson {l : Launch} {Γ : GG} (hI : Inj Γ) {p1 : Int32} {S : Mem} {q : Int32 × Mem} (hf : f_X12_isPerson p1 S = some q) : MM l Γ yX12_isPerson cX12_isPerson 2 (some .boolean) 0 0 [aR 20, aI p1] S (some (aI q.1)) q.2 := by
  refine met_of hI "TickPoolsModel" rfl (by decide +kernel) (Nat.le_of_ble_eq_true rfl) (fun X hX C hr => ?_)
  unfold f_X12_isPerson at hf
  show ZZ X Γ 2 _ S 0 [(0, aR 20), (1, aI p1)] []
  refine z_iload_n (j := 1) C d_X12_isPerson_0 rfl ?_
  refine z_if_lt (tgt := 16) C d_X12_isPerson_1 (by decide) hf (fun c1 hf => ?_) (fun c1 hf => ?_)
  · exact z_sub [] rfl (t_X12_isPerson_16 C hr  _ hf)
  · refine z_iload_n (j := 1) C d_X12_isPerson_4 rfl ?_
    refine z_aload_n (j := 0) C d_X12_isPerson_5 rfl ?_
    refine zg_X12_people C rfl tw_1213 d_X12_isPerson_6 ?_
    refine z_icmp_ge (tgt := 16) C d_X12_isPerson_9 (by decide) hf (fun c9 hf => ?_) (fun c9 hf => ?_)
    · exact z_sub [] rfl (t_X12_isPerson_16 C hr  _ hf)
    · refine z_iconst (v := 1) C d_X12_isPerson_12 (by decide) ?_
      refine z_goto (tgt := 17) C d_X12_isPerson_13 (by decide) ?_
      exact z_sub [] rfl (t_X12_isPerson_17 C hr  _ _ hf)
theorem d_X12_isThing_0 : decode cX12_isThing 0 = .ok (.iload_n 1, 1) := by decide +kernel
theorem d_X12_isThing_1 : decode cX12_isThing 1 = .ok (.ifCond .lt 15, 3) := by decide +kernel
theorem d_X12_isThing_4 : decode cX12_isThing 4 = .ok (.iload_n 1, 1) := by decide +kernel
theorem d_X12_isThing_5 : decode cX12_isThing 5 = .ok (.aload_n 0, 1) := by decide +kernel
theorem d_X12_isThing_6 : decode cX12_isThing 6 = .ok (.getfield 127, 3) := by decide +kernel
theorem d_X12_isThing_9 : decode cX12_isThing 9 = .ok (.if_icmp .ge 7, 3) := by decide +kernel
theorem d_X12_isThing_12 : decode cX12_isThing 12 = .ok (.iconst 1, 1) := by decide +kernel
theorem d_X12_isThing_13 : decode cX12_isThing 13 = .ok (.goto 4, 3) := by decide +kernel
theorem d_X12_isThing_16 : decode cX12_isThing 16 = .ok (.iconst 0, 1) := by decide +kernel
theorem d_X12_isThing_17 : decode cX12_isThing 17 = .ok (.ireturn, 1) := by decide +kernel
def f_X12_isThing_17 (s0 : Int32) (S : Mem) : Option (Int32 × Mem) := (if isB s0 = true then (some (s0, S)) else none)
set_option maxRecDepth 20000 in
theorem t_X12_isThing_17 {X : MC} {Γ : GG} (C : CX X Γ cX12_isThing 2 "TickPoolsModel" 0 0) (hr : X.2.2.2.2.2.2.2.2.1.sig.returnType = some .boolean) {q : Int32 × Mem} (s0 : Int32) (S : Mem) (hf : f_X12_isThing_17 s0 S = some q) : ZZ X Γ 2 (QQ X Γ (some (aI q.1)) q.2) S 17 [] [aI s0] := by
  unfold f_X12_isThing_17 at hf
  obtain ⟨hb17_0, hf⟩ := gd hf
  exact r_i C hr (isB_nar hb17_0).1 d_X12_isThing_17 hf
def f_X12_isThing_16 (S : Mem) : Option (Int32 × Mem) := (f_X12_isThing_17  0 S)
set_option maxRecDepth 20000 in
theorem t_X12_isThing_16 {X : MC} {Γ : GG} (C : CX X Γ cX12_isThing 2 "TickPoolsModel" 0 0) (hr : X.2.2.2.2.2.2.2.2.1.sig.returnType = some .boolean) {q : Int32 × Mem} (S : Mem) (hf : f_X12_isThing_16 S = some q) : ZZ X Γ 2 (QQ X Γ (some (aI q.1)) q.2) S 16 [] [] := by
  unfold f_X12_isThing_16 at hf
  refine z_iconst (v := 0) C d_X12_isThing_16 (by decide) ?_
  exact z_sub [] rfl (t_X12_isThing_17 C hr  _ _ hf)
/-- TickPoolsModel.isThing(I)Z -/
def f_X12_isThing (p1 : Int32) (S : Mem) : Option (Int32 × Mem) := (if p1 < 0 then (f_X12_isThing_16  S) else (if (gI S 20 1) ≤ p1 then (f_X12_isThing_16  S) else (f_X12_isThing_17  1 S)))
set_option maxRecDepth 20000 in
theorem c_X12_isThing {l : Launch} {Γ : GG} (hI : Inj Γ) {p1 : Int32} {S : Mem} {q : Int32 × Mem} (hf : f_X12_isThing p1 S = some q) : MM l Γ yX12_isThing cX12_isThing 2 (some .boolean) 0 0 [aR 20, aI p1] S (some (aI q.1)) q.2 := by
  refine met_of hI "TickPoolsModel" rfl (by decide +kernel) (Nat.le_of_ble_eq_true rfl) (fun X hX C hr => ?_)
  unfold f_X12_isThing at hf
  show ZZ X Γ 2 _ S 0 [(0, aR 20), (1, aI p1)] []
  refine z_iload_n (j := 1) C d_X12_isThing_0 rfl ?_
  refine z_if_lt (tgt := 16) C d_X12_isThing_1 (by decide) hf (fun c1 hf => ?_) (fun c1 hf => ?_)
  · exact z_sub [] rfl (t_X12_isThing_16 C hr  _ hf)
  · refine z_iload_n (j := 1) C d_X12_isThing_4 rfl ?_
    refine z_aload_n (j := 0) C d_X12_isThing_5 rfl ?_
    refine zg_X12_things C rfl tw_1212 d_X12_isThing_6 ?_
    refine z_icmp_ge (tgt := 16) C d_X12_isThing_9 (by decide) hf (fun c9 hf => ?_) (fun c9 hf => ?_)
    · exact z_sub [] rfl (t_X12_isThing_16 C hr  _ hf)
    · refine z_iconst (v := 1) C d_X12_isThing_12 (by decide) ?_
      refine z_goto (tgt := 17) C d_X12_isThing_13 (by decide) ?_
      exact z_sub [] rfl (t_X12_isThing_17 C hr  _ _ hf)
theorem d_X12_isStake_0 : decode cX12_isStake 0 = .ok (.iload_n 1, 1) := by decide +kernel
theorem d_X12_isStake_1 : decode cX12_isStake 1 = .ok (.ifCond .lt 15, 3) := by decide +kernel
theorem d_X12_isStake_4 : decode cX12_isStake 4 = .ok (.iload_n 1, 1) := by decide +kernel
theorem d_X12_isStake_5 : decode cX12_isStake 5 = .ok (.aload_n 0, 1) := by decide +kernel
theorem d_X12_isStake_6 : decode cX12_isStake 6 = .ok (.invokevirtual 130, 3) := by decide +kernel
theorem d_X12_isStake_9 : decode cX12_isStake 9 = .ok (.if_icmp .ge 7, 3) := by decide +kernel
theorem d_X12_isStake_12 : decode cX12_isStake 12 = .ok (.iconst 1, 1) := by decide +kernel
theorem d_X12_isStake_13 : decode cX12_isStake 13 = .ok (.goto 4, 3) := by decide +kernel
theorem d_X12_isStake_16 : decode cX12_isStake 16 = .ok (.iconst 0, 1) := by decide +kernel
theorem d_X12_isStake_17 : decode cX12_isStake 17 = .ok (.ireturn, 1) := by decide +kernel
def f_X12_isStake_17 (s0 : Int32) (S : Mem) : Option (Int32 × Mem) := (if isB s0 = true then (some (s0, S)) else none)
set_option maxRecDepth 20000 in
theorem t_X12_isStake_17 {X : MC} {Γ : GG} (C : CX X Γ cX12_isStake 2 "TickPoolsModel" 1 20) (hr : X.2.2.2.2.2.2.2.2.1.sig.returnType = some .boolean) {q : Int32 × Mem} (s0 : Int32) (S : Mem) (hf : f_X12_isStake_17 s0 S = some q) : ZZ X Γ 2 (QQ X Γ (some (aI q.1)) q.2) S 17 [] [aI s0] := by
  unfold f_X12_isStake_17 at hf
  obtain ⟨hb17_0, hf⟩ := gd hf
  exact r_i C hr (isB_nar hb17_0).1 d_X12_isStake_17 hf
def f_X12_isStake_16 (S : Mem) : Option (Int32 × Mem) := (f_X12_isStake_17  0 S)
set_option maxRecDepth 20000 in
theorem t_X12_isStake_16 {X : MC} {Γ : GG} (C : CX X Γ cX12_isStake 2 "TickPoolsModel" 1 20) (hr : X.2.2.2.2.2.2.2.2.1.sig.returnType = some .boolean) {q : Int32 × Mem} (S : Mem) (hf : f_X12_isStake_16 S = some q) : ZZ X Γ 2 (QQ X Γ (some (aI q.1)) q.2) S 16 [] [] := by
  unfold f_X12_isStake_16 at hf
  refine z_iconst (v := 0) C d_X12_isStake_16 (by decide) ?_
  exact z_sub [] rfl (t_X12_isStake_17 C hr  _ _ hf)
/-- TickPoolsModel.isStake(I)Z -/
def f_X12_isStake (p1 : Int32) (S : Mem) : Option (Int32 × Mem) := (if p1 < 0 then (f_X12_isStake_16  S) else ((f_X12_stakes S).bind fun q6 => (if q6.1 ≤ p1 then (f_X12_isStake_16  q6.2) else (f_X12_isStake_17  1 q6.2))))
set_option maxRecDepth 20000 in
theorem c_X12_isStake {l : Launch} {Γ : GG} (hI : Inj Γ) {p1 : Int32} {S : Mem} {q : Int32 × Mem} (hf : f_X12_isStake p1 S = some q) : MM l Γ yX12_isStake cX12_isStake 2 (some .boolean) 1 20 [aR 20, aI p1] S (some (aI q.1)) q.2 := by
  refine met_of hI "TickPoolsModel" rfl (by decide +kernel) (Nat.le_of_ble_eq_true rfl) (fun X hX C hr => ?_)
  unfold f_X12_isStake at hf
  show ZZ X Γ 2 _ S 0 [(0, aR 20), (1, aI p1)] []
  refine z_iload_n (j := 1) C d_X12_isStake_0 rfl ?_
  refine z_if_lt (tgt := 16) C d_X12_isStake_1 (by decide) hf (fun c1 hf => ?_) (fun c1 hf => ?_)
  · exact z_sub [] rfl (t_X12_isStake_16 C hr  _ hf)
  · refine z_iload_n (j := 1) C d_X12_isStake_4 rfl ?_
    refine z_aload_n (j := 0) C d_X12_isStake_5 rfl ?_
    obtain ⟨q6, hF, hf⟩ := bd hf
    refine z_callV1 (rest := [aI p1]) C [] rfl (by decide) rfl rfl k_X12_stakes tw_1486 ⟨by decide, by decide⟩ (Nat.le_of_ble_eq_true rfl) d_X12_isStake_6 (c_X12_stakes C.inj hF) rfl ?_
    refine z_icmp_ge (tgt := 16) C d_X12_isStake_9 (by decide) hf (fun c9 hf => ?_) (fun c9 hf => ?_)
    · exact z_sub [] rfl (t_X12_isStake_16 C hr  _ hf)
    · refine z_iconst (v := 1) C d_X12_isStake_12 (by decide) ?_
      refine z_goto (tgt := 17) C d_X12_isStake_13 (by decide) ?_
      exact z_sub [] rfl (t_X12_isStake_17 C hr  _ _ hf)
theorem d_X12_feed_0 : decode cX12_feed 0 = .ok (.aload_n 0, 1) := by decide +kernel
theorem d_X12_feed_1 : decode cX12_feed 1 = .ok (.getfield 134, 3) := by decide +kernel
theorem d_X12_feed_4 : decode cX12_feed 4 = .ok (.sipush 380, 3) := by decide +kernel
theorem d_X12_feed_7 : decode cX12_feed 7 = .ok (.if_icmp .le 5, 3) := by decide +kernel
theorem d_X12_feed_10 : decode cX12_feed 10 = .ok (.iconst (-1), 1) := by decide +kernel
theorem d_X12_feed_11 : decode cX12_feed 11 = .ok (.ireturn, 1) := by decide +kernel
theorem d_X12_feed_12 : decode cX12_feed 12 = .ok (.iconst 0, 1) := by decide +kernel
theorem d_X12_feed_13 : decode cX12_feed 13 = .ok (.istore 6, 2) := by decide +kernel
theorem d_X12_feed_15 : decode cX12_feed 15 = .ok (.iload 6, 2) := by decide +kernel
theorem d_X12_feed_17 : decode cX12_feed 17 = .ok (.bipush 20, 2) := by decide +kernel
theorem d_X12_feed_19 : decode cX12_feed 19 = .ok (.if_icmp .ge 83, 3) := by decide +kernel
theorem d_X12_feed_22 : decode cX12_feed 22 = .ok (.iload 6, 2) := by decide +kernel
theorem d_X12_feed_24 : decode cX12_feed 24 = .ok (.iconst 4, 1) := by decide +kernel
theorem d_X12_feed_25 : decode cX12_feed 25 = .ok (.if_icmp .ge 7, 3) := by decide +kernel
theorem d_X12_feed_28 : decode cX12_feed 28 = .ok (.iload_n 1, 1) := by decide +kernel
theorem d_X12_feed_29 : decode cX12_feed 29 = .ok (.goto 39, 3) := by decide +kernel
theorem d_X12_feed_32 : decode cX12_feed 32 = .ok (.iload 6, 2) := by decide +kernel
theorem d_X12_feed_34 : decode cX12_feed 34 = .ok (.bipush 8, 2) := by decide +kernel
theorem d_X12_feed_36 : decode cX12_feed 36 = .ok (.if_icmp .ge 7, 3) := by decide +kernel
theorem d_X12_feed_39 : decode cX12_feed 39 = .ok (.iload_n 2, 1) := by decide +kernel
theorem d_X12_feed_40 : decode cX12_feed 40 = .ok (.goto 28, 3) := by decide +kernel
theorem d_X12_feed_43 : decode cX12_feed 43 = .ok (.iload 6, 2) := by decide +kernel
theorem d_X12_feed_45 : decode cX12_feed 45 = .ok (.bipush 12, 2) := by decide +kernel
theorem d_X12_feed_47 : decode cX12_feed 47 = .ok (.if_icmp .ge 7, 3) := by decide +kernel
theorem d_X12_feed_50 : decode cX12_feed 50 = .ok (.iload_n 3, 1) := by decide +kernel
theorem d_X12_feed_51 : decode cX12_feed 51 = .ok (.goto 17, 3) := by decide +kernel
theorem d_X12_feed_54 : decode cX12_feed 54 = .ok (.iload 6, 2) := by decide +kernel
theorem d_X12_feed_56 : decode cX12_feed 56 = .ok (.bipush 16, 2) := by decide +kernel
theorem d_X12_feed_58 : decode cX12_feed 58 = .ok (.if_icmp .ge 8, 3) := by decide +kernel
theorem d_X12_feed_61 : decode cX12_feed 61 = .ok (.iload 4, 2) := by decide +kernel
theorem d_X12_feed_63 : decode cX12_feed 63 = .ok (.goto 5, 3) := by decide +kernel
theorem d_X12_feed_66 : decode cX12_feed 66 = .ok (.iload 5, 2) := by decide +kernel
theorem d_X12_feed_68 : decode cX12_feed 68 = .ok (.istore 7, 2) := by decide +kernel
theorem d_X12_feed_70 : decode cX12_feed 70 = .ok (.aload_n 0, 1) := by decide +kernel
theorem d_X12_feed_71 : decode cX12_feed 71 = .ok (.getfield 23, 3) := by decide +kernel
theorem d_X12_feed_74 : decode cX12_feed 74 = .ok (.aload_n 0, 1) := by decide +kernel
theorem d_X12_feed_75 : decode cX12_feed 75 = .ok (.getfield 134, 3) := by decide +kernel
theorem d_X12_feed_78 : decode cX12_feed 78 = .ok (.iload 6, 2) := by decide +kernel
theorem d_X12_feed_80 : decode cX12_feed 80 = .ok (.iadd, 1) := by decide +kernel
theorem d_X12_feed_81 : decode cX12_feed 81 = .ok (.iload 7, 2) := by decide +kernel
theorem d_X12_feed_83 : decode cX12_feed 83 = .ok (.bipush 24, 2) := by decide +kernel
theorem d_X12_feed_85 : decode cX12_feed 85 = .ok (.bipush 8, 2) := by decide +kernel
theorem d_X12_feed_87 : decode cX12_feed 87 = .ok (.iload 6, 2) := by decide +kernel
theorem d_X12_feed_89 : decode cX12_feed 89 = .ok (.iconst 4, 1) := by decide +kernel
theorem d_X12_feed_90 : decode cX12_feed 90 = .ok (.irem, 1) := by decide +kernel
theorem d_X12_feed_91 : decode cX12_feed 91 = .ok (.imul, 1) := by decide +kernel
theorem d_X12_feed_92 : decode cX12_feed 92 = .ok (.isub, 1) := by decide +kernel
theorem d_X12_feed_93 : decode cX12_feed 93 = .ok (.ishr, 1) := by decide +kernel
theorem d_X12_feed_94 : decode cX12_feed 94 = .ok (.i2b, 1) := by decide +kernel
theorem d_X12_feed_95 : decode cX12_feed 95 = .ok (.bastore, 1) := by decide +kernel
theorem d_X12_feed_96 : decode cX12_feed 96 = .ok (.iinc 6 1, 3) := by decide +kernel
theorem d_X12_feed_99 : decode cX12_feed 99 = .ok (.goto (-84), 3) := by decide +kernel
theorem d_X12_feed_102 : decode cX12_feed 102 = .ok (.aload_n 0, 1) := by decide +kernel
theorem d_X12_feed_103 : decode cX12_feed 103 = .ok (.dup, 1) := by decide +kernel
theorem d_X12_feed_104 : decode cX12_feed 104 = .ok (.getfield 134, 3) := by decide +kernel
theorem d_X12_feed_107 : decode cX12_feed 107 = .ok (.bipush 20, 2) := by decide +kernel
theorem d_X12_feed_109 : decode cX12_feed 109 = .ok (.iadd, 1) := by decide +kernel
theorem d_X12_feed_110 : decode cX12_feed 110 = .ok (.putfield 134, 3) := by decide +kernel
theorem d_X12_feed_113 : decode cX12_feed 113 = .ok (.aload_n 0, 1) := by decide +kernel
theorem d_X12_feed_114 : decode cX12_feed 114 = .ok (.getfield 134, 3) := by decide +kernel
theorem d_X12_feed_117 : decode cX12_feed 117 = .ok (.ireturn, 1) := by decide +kernel
def f_X12_feed_68 (k15 : Int32 → Int32 → Int32 → Int32 → Int32 → Int32 → Mem → Option (Int32 × Mem)) (v1 : Int32) (v2 : Int32) (v3 : Int32) (v4 : Int32) (v5 : Int32) (v6 : Int32) (s0 : Int32) (S : Mem) : Option (Int32 × Mem) := (if inb ((gI S 20 8) + v6) 400 = true then (k15 v1 v2 v3 v4 v5 (v6 + 1) (sI S 25 ((((gI S 20 8) + v6) : Int32).toNatClampNeg) (((((s0 >>> ((24 - (8 * (v6 % 4))) &&& 31)) : Int32).toInt8.toInt32) : Int32).toInt8.toInt32))) else none)
set_option maxRecDepth 20000 in
theorem t_X12_feed_68 {X : MC} {Γ : GG} (C : CX X Γ cX12_feed 8 "TickPoolsModel" 0 0) (hr : X.2.2.2.2.2.2.2.2.1.sig.returnType = some .int) {k15 : Int32 → Int32 → Int32 → Int32 → Int32 → Int32 → Mem → Option (Int32 × Mem)} {q : Int32 × Mem} (hk15 : ∀ (v1 : Int32) (v2 : Int32) (v3 : Int32) (v4 : Int32) (v5 : Int32) (v6 : Int32) (S : Mem), k15 v1 v2 v3 v4 v5 v6 S = some q → ZZ X Γ 8 (QQ X Γ (some (aI q.1)) q.2) S 15 [(0, aR 20), (1, aI v1), (2, aI v2), (3, aI v3), (4, aI v4), (5, aI v5), (6, aI v6)] []) (v1 : Int32) (v2 : Int32) (v3 : Int32) (v4 : Int32) (v5 : Int32) (v6 : Int32) (s0 : Int32) (S : Mem) (hf : f_X12_feed_68 k15 v1 v2 v3 v4 v5 v6 s0 S = some q) : ZZ X Γ 8 (QQ X Γ (some (aI q.1)) q.2) S 68 [(0, aR 20), (1, aI v1), (2, aI v2), (3, aI v3), (4, aI v4), (5, aI v5), (6, aI v6)] [aI s0] := by
  unfold f_X12_feed_68 at hf
  refine z_istore (lv' := [(7, aI s0), (0, aR 20), (1, aI v1), (2, aI v2), (3, aI v3), (4, aI v4), (5, aI v5), (6, aI v6)]) C d_X12_feed_68 (by decide) rfl ?_
  refine z_aload_n (j := 1) C d_X12_feed_70 rfl ?_
  refine zg_X12_tape C rfl tw_1218 d_X12_feed_71 ?_
  refine z_aload_n (j := 1) C d_X12_feed_74 rfl ?_
  refine zg_X12_taped C rfl tw_1219 d_X12_feed_75 ?_
  refine z_iload (j := 7) C d_X12_feed_78 rfl ?_
  refine z_iadd C d_X12_feed_80 ?_
  refine z_iload (j := 0) C d_X12_feed_81 rfl ?_
  refine z_bipush (v := 24) C d_X12_feed_83 (by decide) ?_
  refine z_bipush (v := 8) C d_X12_feed_85 (by decide) ?_
  refine z_iload (j := 7) C d_X12_feed_87 rfl ?_
  refine z_iconst (v := 4) C d_X12_feed_89 (by decide) ?_
  refine z_irem C d_X12_feed_90 (by decide) ?_
  refine z_imul C d_X12_feed_91 ?_
  refine z_isub C d_X12_feed_92 ?_
  refine z_ishr C d_X12_feed_93 ?_
  refine z_i2b C d_X12_feed_94 ?_
  obtain ⟨hi95_0, hf⟩ := gd hf
  refine z_bast C rfl hi95_0 d_X12_feed_95 ?_
  refine z_iinc (j := 7) (v := (v6 + 1)) (lv' := [(6, aI (v6 + 1)), (7, aI s0), (0, aR 20), (1, aI v1), (2, aI v2), (3, aI v3), (4, aI v4), (5, aI v5)]) C d_X12_feed_96 rfl rfl (by decide) rfl ?_
  refine z_goto (tgt := 15) C d_X12_feed_99 (by decide) ?_
  exact z_sub [2, 3, 4, 5, 6, 7, 0] rfl (hk15 _ _ _ _ _ _ _ hf)
def f_X12_feed_15B (k15 : Int32 → Int32 → Int32 → Int32 → Int32 → Int32 → Mem → Option (Int32 × Mem)) (v1 : Int32) (v2 : Int32) (v3 : Int32) (v4 : Int32) (v5 : Int32) (v6 : Int32) (S : Mem) : Option (Int32 × Mem) := (if 20 ≤ v6 then (some ((gI (sI S 20 8 ((gI S 20 8) + 20)) 20 8), (sI S 20 8 ((gI S 20 8) + 20)))) else (if 4 ≤ v6 then (if 8 ≤ v6 then (if 12 ≤ v6 then (if 16 ≤ v6 then (f_X12_feed_68 k15 v1 v2 v3 v4 v5 v6 v5 S) else (f_X12_feed_68 k15 v1 v2 v3 v4 v5 v6 v4 S)) else (f_X12_feed_68 k15 v1 v2 v3 v4 v5 v6 v3 S)) else (f_X12_feed_68 k15 v1 v2 v3 v4 v5 v6 v2 S)) else (f_X12_feed_68 k15 v1 v2 v3 v4 v5 v6 v1 S)))
set_option maxRecDepth 20000 in
theorem t_X12_feed_15B {X : MC} {Γ : GG} (C : CX X Γ cX12_feed 8 "TickPoolsModel" 0 0) (hr : X.2.2.2.2.2.2.2.2.1.sig.returnType = some .int) {k15 : Int32 → Int32 → Int32 → Int32 → Int32 → Int32 → Mem → Option (Int32 × Mem)} {q : Int32 × Mem} (hk15 : ∀ (v1 : Int32) (v2 : Int32) (v3 : Int32) (v4 : Int32) (v5 : Int32) (v6 : Int32) (S : Mem), k15 v1 v2 v3 v4 v5 v6 S = some q → ZZ X Γ 8 (QQ X Γ (some (aI q.1)) q.2) S 15 [(0, aR 20), (1, aI v1), (2, aI v2), (3, aI v3), (4, aI v4), (5, aI v5), (6, aI v6)] []) (v1 : Int32) (v2 : Int32) (v3 : Int32) (v4 : Int32) (v5 : Int32) (v6 : Int32) (S : Mem) (hf : f_X12_feed_15B k15 v1 v2 v3 v4 v5 v6 S = some q) : ZZ X Γ 8 (QQ X Γ (some (aI q.1)) q.2) S 15 [(0, aR 20), (1, aI v1), (2, aI v2), (3, aI v3), (4, aI v4), (5, aI v5), (6, aI v6)] [] := by
  unfold f_X12_feed_15B at hf
  refine z_iload (j := 6) C d_X12_feed_15 rfl ?_
  refine z_bipush (v := 20) C d_X12_feed_17 (by decide) ?_
  refine z_icmp_ge (tgt := 102) C d_X12_feed_19 (by decide) hf (fun c19 hf => ?_) (fun c19 hf => ?_)
  · refine z_aload_n (j := 0) C d_X12_feed_102 rfl ?_
    refine z_dup C d_X12_feed_103 rfl ?_
    refine zg_X12_taped C rfl tw_1219 d_X12_feed_104 ?_
    refine z_bipush (v := 20) C d_X12_feed_107 (by decide) ?_
    refine z_iadd C d_X12_feed_109 ?_
    refine zp_X12_taped C rfl tw_1219 d_X12_feed_110 ?_
    refine z_aload_n (j := 0) C d_X12_feed_113 rfl ?_
    refine zg_X12_taped C rfl tw_1219 d_X12_feed_114 ?_
    exact r_i C hr rfl d_X12_feed_117 hf
  · refine z_iload (j := 6) C d_X12_feed_22 rfl ?_
    refine z_iconst (v := 4) C d_X12_feed_24 (by decide) ?_
    refine z_icmp_ge (tgt := 32) C d_X12_feed_25 (by decide) hf (fun c25 hf => ?_) (fun c25 hf => ?_)
    · refine z_iload (j := 6) C d_X12_feed_32 rfl ?_
      refine z_bipush (v := 8) C d_X12_feed_34 (by decide) ?_
      refine z_icmp_ge (tgt := 43) C d_X12_feed_36 (by decide) hf (fun c36 hf => ?_) (fun c36 hf => ?_)
      · refine z_iload (j := 6) C d_X12_feed_43 rfl ?_
        refine z_bipush (v := 12) C d_X12_feed_45 (by decide) ?_
        refine z_icmp_ge (tgt := 54) C d_X12_feed_47 (by decide) hf (fun c47 hf => ?_) (fun c47 hf => ?_)
        · refine z_iload (j := 6) C d_X12_feed_54 rfl ?_
          refine z_bipush (v := 16) C d_X12_feed_56 (by decide) ?_
          refine z_icmp_ge (tgt := 66) C d_X12_feed_58 (by decide) hf (fun c58 hf => ?_) (fun c58 hf => ?_)
          · refine z_iload (j := 5) C d_X12_feed_66 rfl ?_
            exact z_sub [0, 1, 2, 3, 4, 5, 6] rfl (t_X12_feed_68 C hr hk15 _ _ _ _ _ _ _ _ hf)
          · refine z_iload (j := 4) C d_X12_feed_61 rfl ?_
            refine z_goto (tgt := 68) C d_X12_feed_63 (by decide) ?_
            exact z_sub [0, 1, 2, 3, 4, 5, 6] rfl (t_X12_feed_68 C hr hk15 _ _ _ _ _ _ _ _ hf)
        · refine z_iload_n (j := 3) C d_X12_feed_50 rfl ?_
          refine z_goto (tgt := 68) C d_X12_feed_51 (by decide) ?_
          exact z_sub [0, 1, 2, 3, 4, 5, 6] rfl (t_X12_feed_68 C hr hk15 _ _ _ _ _ _ _ _ hf)
      · refine z_iload_n (j := 2) C d_X12_feed_39 rfl ?_
        refine z_goto (tgt := 68) C d_X12_feed_40 (by decide) ?_
        exact z_sub [0, 1, 2, 3, 4, 5, 6] rfl (t_X12_feed_68 C hr hk15 _ _ _ _ _ _ _ _ hf)
    · refine z_iload_n (j := 1) C d_X12_feed_28 rfl ?_
      refine z_goto (tgt := 68) C d_X12_feed_29 (by decide) ?_
      exact z_sub [0, 1, 2, 3, 4, 5, 6] rfl (t_X12_feed_68 C hr hk15 _ _ _ _ _ _ _ _ hf)
def f_X12_feed_15 : Nat → Int32 → Int32 → Int32 → Int32 → Int32 → Int32 → Mem → Option (Int32 × Mem)
  | 0 => fun _ _ _ _ _ _ _ => none
  | n + 1 => f_X12_feed_15B (f_X12_feed_15 n)
theorem t_X12_feed_15 {X : MC} {Γ : GG} (C : CX X Γ cX12_feed 8 "TickPoolsModel" 0 0) (hr : X.2.2.2.2.2.2.2.2.1.sig.returnType = some .int) {q : Int32 × Mem} : ∀ (n : Nat) (v1 : Int32) (v2 : Int32) (v3 : Int32) (v4 : Int32) (v5 : Int32) (v6 : Int32) (S : Mem) (hf : f_X12_feed_15 n v1 v2 v3 v4 v5 v6 S = some q), ZZ X Γ 8 (QQ X Γ (some (aI q.1)) q.2) S 15 [(0, aR 20), (1, aI v1), (2, aI v2), (3, aI v3), (4, aI v4), (5, aI v5), (6, aI v6)] []
  | 0, _, _, _, _, _, _, _, hf => nomatch (show (none : Option (Int32 × Mem)) = some q from hf)
  | n + 1, v1, v2, v3, v4, v5, v6, S, hf => t_X12_feed_15B C hr (t_X12_feed_15 C hr n) v1 v2 v3 v4 v5 v6 S hf
/-- TickPoolsModel.feed(IIIII)I -/
def f_X12_feed (p1 : Int32) (p2 : Int32) (p3 : Int32) (p4 : Int32) (p5 : Int32) (S : Mem) : Option (Int32 × Mem) := (if (gI S 20 8) ≤ 380 then (f_X12_feed_15  100000 p1 p2 p3 p4 p5 0 S) else (some ((-1), S)))
set_option maxRecDepth 20000 in
theorem c_X12_feed {l : Launch} {Γ : GG} (hI : Inj Γ) {p1 : Int32} {p2 : Int32} {p3 : Int32} {p4 : Int32} {p5 : Int32} {S : Mem} {q : Int32 × Mem} (hf : f_X12_feed p1 p2 p3 p4 p5 S = some q) : MM l Γ yX12_feed cX12_feed 8 (some .int) 0 0 [aR 20, aI p1, aI p2, aI p3, aI p4, aI p5] S (some (aI q.1)) q.2 := by
  refine met_of hI "TickPoolsModel" rfl (by decide +kernel) (Nat.le_of_ble_eq_true rfl) (fun X hX C hr => ?_)
  unfold f_X12_feed at hf
  show ZZ X Γ 8 _ S 0 [(0, aR 20), (1, aI p1), (2, aI p2), (3, aI p3), (4, aI p4), (5, aI p5)] []
  refine z_aload_n (j := 0) C d_X12_feed_0 rfl ?_
  refine zg_X12_taped C rfl tw_1219 d_X12_feed_1 ?_
  refine z_sipush (v := 380) C d_X12_feed_4 (by decide) ?_
  refine z_icmp_le (tgt := 12) C d_X12_feed_7 (by decide) hf (fun c7 hf => ?_) (fun c7 hf => ?_)
  · refine z_iconst (v := 0) C d_X12_feed_12 (by decide) ?_
    refine z_istore (lv' := [(6, aI 0), (0, aR 20), (1, aI p1), (2, aI p2), (3, aI p3), (4, aI p4), (5, aI p5)]) C d_X12_feed_13 (by decide) rfl ?_
    exact z_sub [1, 2, 3, 4, 5, 6, 0] rfl (t_X12_feed_15 C hr  100000 _ _ _ _ _ _ _ hf)
  · refine z_iconst (v := (-1)) C d_X12_feed_10 (by decide) ?_
    exact r_i C hr rfl d_X12_feed_11 hf
theorem d_X12_end_0 : decode cX12_end 0 = .ok (.iload_n 1, 1) := by decide +kernel
theorem d_X12_end_1 : decode cX12_end 1 = .ok (.i2l, 1) := by decide +kernel
theorem d_X12_end_2 : decode cX12_end 2 = .ok (.lconst 0, 1) := by decide +kernel
theorem d_X12_end_3 : decode cX12_end 3 = .ok (.aload_n 0, 1) := by decide +kernel
theorem d_X12_end_4 : decode cX12_end 4 = .ok (.getfield 134, 3) := by decide +kernel
theorem d_X12_end_7 : decode cX12_end 7 = .ok (.i2l, 1) := by decide +kernel
theorem d_X12_end_8 : decode cX12_end 8 = .ok (.invokestatic 137, 3) := by decide +kernel
theorem d_X12_end_11 : decode cX12_end 11 = .ok (.ifCond .ne 5, 3) := by decide +kernel
theorem d_X12_end_14 : decode cX12_end 14 = .ok (.iconst (-1), 1) := by decide +kernel
theorem d_X12_end_15 : decode cX12_end 15 = .ok (.ireturn, 1) := by decide +kernel
theorem d_X12_end_16 : decode cX12_end 16 = .ok (.aload_n 0, 1) := by decide +kernel
theorem d_X12_end_17 : decode cX12_end 17 = .ok (.iload_n 1, 1) := by decide +kernel
theorem d_X12_end_18 : decode cX12_end 18 = .ok (.putfield 134, 3) := by decide +kernel
theorem d_X12_end_21 : decode cX12_end 21 = .ok (.iload_n 1, 1) := by decide +kernel
theorem d_X12_end_22 : decode cX12_end 22 = .ok (.ireturn, 1) := by decide +kernel
/-- TickPoolsModel.end(I)I -/
def f_X12_end (p1 : Int32) (S : Mem) : Option (Int32 × Mem) := ((f_X12_isIn (p1.toInt64) 0 (((gI S 20 8) : Int32).toInt64) S).bind fun q8 => (if q8.1 = 0 then (some ((-1), q8.2)) else (some (p1, (sI q8.2 20 8 p1)))))
set_option maxRecDepth 20000 in
theorem c_X12_end {l : Launch} {Γ : GG} (hI : Inj Γ) {p1 : Int32} {S : Mem} {q : Int32 × Mem} (hf : f_X12_end p1 S = some q) : MM l Γ yX12_end cX12_end 2 (some .int) 1 25 [aR 20, aI p1] S (some (aI q.1)) q.2 := by
  refine met_of hI "TickPoolsModel" rfl (by decide +kernel) (Nat.le_of_ble_eq_true rfl) (fun X hX C hr => ?_)
  unfold f_X12_end at hf
  show ZZ X Γ 2 _ S 0 [(0, aR 20), (1, aI p1)] []
  refine z_iload_n (j := 1) C d_X12_end_0 rfl ?_
  refine z_i2l C d_X12_end_1 ?_
  refine z_lconst (v := 0) C d_X12_end_2 (by decide) ?_
  refine z_aload_n (j := 0) C d_X12_end_3 rfl ?_
  refine zg_X12_taped C rfl tw_1219 d_X12_end_4 ?_
  refine z_i2l C d_X12_end_7 ?_
  obtain ⟨q8, hF, hf⟩ := bd hf
  refine z_callS1 (rest := []) C [aJ (p1.toInt64), aJ 0, aJ (((gI S 20 8) : Int32).toInt64)] k_X12_isIn tw_1385 ⟨by decide, by decide⟩ (Nat.le_of_ble_eq_true rfl) d_X12_end_8 (c_X12_isIn C.inj hF) rfl ?_
  refine z_if_ne (tgt := 16) C d_X12_end_11 (by decide) hf (fun c11 hf => ?_) (fun c11 hf => ?_)
  · refine z_aload_n (j := 0) C d_X12_end_16 rfl ?_
    refine z_iload_n (j := 1) C d_X12_end_17 rfl ?_
    refine zp_X12_taped C rfl tw_1219 d_X12_end_18 ?_
    refine z_iload_n (j := 1) C d_X12_end_21 rfl ?_
    exact r_i C hr rfl d_X12_end_22 hf
  · refine z_iconst (v := (-1)) C d_X12_end_14 (by decide) ?_
    exact r_i C hr rfl d_X12_end_15 hf
theorem d_X12_fails_0 : decode cX12_fails 0 = .ok (.aload_n 0, 1) := by decide +kernel
theorem d_X12_fails_1 : decode cX12_fails 1 = .ok (.iconst 1, 1) := by decide +kernel
theorem d_X12_fails_2 : decode cX12_fails 2 = .ok (.bipush 8, 2) := by decide +kernel
theorem d_X12_fails_4 : decode cX12_fails 4 = .ok (.iload_n 2, 1) := by decide +kernel
theorem d_X12_fails_5 : decode cX12_fails 5 = .ok (.imul, 1) := by decide +kernel
theorem d_X12_fails_6 : decode cX12_fails 6 = .ok (.iadd, 1) := by decide +kernel
theorem d_X12_fails_7 : decode cX12_fails 7 = .ok (.iload_n 1, 1) := by decide +kernel
theorem d_X12_fails_8 : decode cX12_fails 8 = .ok (.iadd, 1) := by decide +kernel
theorem d_X12_fails_9 : decode cX12_fails 9 = .ok (.putfield 141, 3) := by decide +kernel
theorem d_X12_fails_12 : decode cX12_fails 12 = .ok (.iconst 0, 1) := by decide +kernel
theorem d_X12_fails_13 : decode cX12_fails 13 = .ok (.ireturn, 1) := by decide +kernel
/-- TickPoolsModel.fails(II)Z -/
def f_X12_fails (p1 : Int32) (p2 : Int32) (S : Mem) : Option (Int32 × Mem) := (some (0, (sI S 20 10 ((1 + (8 * p2)) + p1))))
set_option maxRecDepth 20000 in
theorem c_X12_fails {l : Launch} {Γ : GG} (hI : Inj Γ) {p1 : Int32} {p2 : Int32} {S : Mem} {q : Int32 × Mem} (hf : f_X12_fails p1 p2 S = some q) : MM l Γ yX12_fails cX12_fails 3 (some .boolean) 0 0 [aR 20, aI p1, aI p2] S (some (aI q.1)) q.2 := by
  refine met_of hI "TickPoolsModel" rfl (by decide +kernel) (Nat.le_of_ble_eq_true rfl) (fun X hX C hr => ?_)
  unfold f_X12_fails at hf
  show ZZ X Γ 3 _ S 0 [(0, aR 20), (1, aI p1), (2, aI p2)] []
  refine z_aload_n (j := 0) C d_X12_fails_0 rfl ?_
  refine z_iconst (v := 1) C d_X12_fails_1 (by decide) ?_
  refine z_bipush (v := 8) C d_X12_fails_2 (by decide) ?_
  refine z_iload_n (j := 2) C d_X12_fails_4 rfl ?_
  refine z_imul C d_X12_fails_5 ?_
  refine z_iadd C d_X12_fails_6 ?_
  refine z_iload_n (j := 1) C d_X12_fails_7 rfl ?_
  refine z_iadd C d_X12_fails_8 ?_
  refine zp_X12_wrong C rfl tw_1221 d_X12_fails_9 ?_
  refine z_iconst (v := 0) C d_X12_fails_12 (by decide) ?_
  exact r_i C hr (by decide) d_X12_fails_13 hf
theorem d_X12_byteAt_0 : decode cX12_byteAt 0 = .ok (.iload_n 1, 1) := by decide +kernel
theorem d_X12_byteAt_1 : decode cX12_byteAt 1 = .ok (.aload_n 0, 1) := by decide +kernel
theorem d_X12_byteAt_2 : decode cX12_byteAt 2 = .ok (.getfield 134, 3) := by decide +kernel
theorem d_X12_byteAt_5 : decode cX12_byteAt 5 = .ok (.if_icmp .ge 16, 3) := by decide +kernel
theorem d_X12_byteAt_8 : decode cX12_byteAt 8 = .ok (.aload_n 0, 1) := by decide +kernel
theorem d_X12_byteAt_9 : decode cX12_byteAt 9 = .ok (.getfield 23, 3) := by decide +kernel
theorem d_X12_byteAt_12 : decode cX12_byteAt 12 = .ok (.iload_n 1, 1) := by decide +kernel
theorem d_X12_byteAt_13 : decode cX12_byteAt 13 = .ok (.baload, 1) := by decide +kernel
theorem d_X12_byteAt_14 : decode cX12_byteAt 14 = .ok (.sipush 255, 3) := by decide +kernel
theorem d_X12_byteAt_17 : decode cX12_byteAt 17 = .ok (.iand, 1) := by decide +kernel
theorem d_X12_byteAt_18 : decode cX12_byteAt 18 = .ok (.goto 4, 3) := by decide +kernel
theorem d_X12_byteAt_21 : decode cX12_byteAt 21 = .ok (.iconst (-1), 1) := by decide +kernel
theorem d_X12_byteAt_22 : decode cX12_byteAt 22 = .ok (.ireturn, 1) := by decide +kernel
def f_X12_byteAt_22 (s0 : Int32) (S : Mem) : Option (Int32 × Mem) := (some (s0, S))
set_option maxRecDepth 20000 in
theorem t_X12_byteAt_22 {X : MC} {Γ : GG} (C : CX X Γ cX12_byteAt 2 "TickPoolsModel" 0 0) (hr : X.2.2.2.2.2.2.2.2.1.sig.returnType = some .int) {q : Int32 × Mem} (s0 : Int32) (S : Mem) (hf : f_X12_byteAt_22 s0 S = some q) : ZZ X Γ 2 (QQ X Γ (some (aI q.1)) q.2) S 22 [] [aI s0] := by
  unfold f_X12_byteAt_22 at hf
  exact r_i C hr rfl d_X12_byteAt_22 hf
/-- TickPoolsModel.byteAt(I)I -/
def f_X12_byteAt (p1 : Int32) (S : Mem) : Option (Int32 × Mem) := (if (gI S 20 8) ≤ p1 then (f_X12_byteAt_22  (-1) S) else (if inb p1 400 = true then (f_X12_byteAt_22  ((gI S 25 ((p1 : Int32).toNatClampNeg)) &&& 255) S) else none))
set_option maxRecDepth 20000 in
theorem c_X12_byteAt {l : Launch} {Γ : GG} (hI : Inj Γ) {p1 : Int32} {S : Mem} {q : Int32 × Mem} (hf : f_X12_byteAt p1 S = some q) : MM l Γ yX12_byteAt cX12_byteAt 2 (some .int) 0 0 [aR 20, aI p1] S (some (aI q.1)) q.2 := by
  refine met_of hI "TickPoolsModel" rfl (by decide +kernel) (Nat.le_of_ble_eq_true rfl) (fun X hX C hr => ?_)
  unfold f_X12_byteAt at hf
  show ZZ X Γ 2 _ S 0 [(0, aR 20), (1, aI p1)] []
  refine z_iload_n (j := 1) C d_X12_byteAt_0 rfl ?_
  refine z_aload_n (j := 0) C d_X12_byteAt_1 rfl ?_
  refine zg_X12_taped C rfl tw_1219 d_X12_byteAt_2 ?_
  refine z_icmp_ge (tgt := 21) C d_X12_byteAt_5 (by decide) hf (fun c5 hf => ?_) (fun c5 hf => ?_)
  · refine z_iconst (v := (-1)) C d_X12_byteAt_21 (by decide) ?_
    exact z_sub [] rfl (t_X12_byteAt_22 C hr  _ _ hf)
  · refine z_aload_n (j := 0) C d_X12_byteAt_8 rfl ?_
    refine zg_X12_tape C rfl tw_1218 d_X12_byteAt_9 ?_
    refine z_iload_n (j := 1) C d_X12_byteAt_12 rfl ?_
    obtain ⟨hi13_0, hf⟩ := gd hf
    refine z_bald C rfl hi13_0 d_X12_byteAt_13 ?_
    refine z_sipush (v := 255) C d_X12_byteAt_14 (by decide) ?_
    refine z_iand C d_X12_byteAt_17 ?_
    refine z_goto (tgt := 22) C d_X12_byteAt_18 (by decide) ?_
    exact z_sub [] rfl (t_X12_byteAt_22 C hr  _ _ hf)
theorem d_X12_next_0 : decode cX12_next 0 = .ok (.aload_n 0, 1) := by decide +kernel
theorem d_X12_next_1 : decode cX12_next 1 = .ok (.aload_n 0, 1) := by decide +kernel
theorem d_X12_next_2 : decode cX12_next 2 = .ok (.getfield 144, 3) := by decide +kernel
theorem d_X12_next_5 : decode cX12_next 5 = .ok (.invokevirtual 147, 3) := by decide +kernel
theorem d_X12_next_8 : decode cX12_next 8 = .ok (.bipush 32, 2) := by decide +kernel
theorem d_X12_next_10 : decode cX12_next 10 = .ok (.if_icmp .ne 16, 3) := by decide +kernel
theorem d_X12_next_13 : decode cX12_next 13 = .ok (.aload_n 0, 1) := by decide +kernel
theorem d_X12_next_14 : decode cX12_next 14 = .ok (.dup, 1) := by decide +kernel
theorem d_X12_next_15 : decode cX12_next 15 = .ok (.getfield 144, 3) := by decide +kernel
theorem d_X12_next_18 : decode cX12_next 18 = .ok (.iconst 1, 1) := by decide +kernel
theorem d_X12_next_19 : decode cX12_next 19 = .ok (.iadd, 1) := by decide +kernel
theorem d_X12_next_20 : decode cX12_next 20 = .ok (.putfield 144, 3) := by decide +kernel
theorem d_X12_next_23 : decode cX12_next 23 = .ok (.goto (-23), 3) := by decide +kernel
theorem d_X12_next_26 : decode cX12_next 26 = .ok (.aload_n 0, 1) := by decide +kernel
theorem d_X12_next_27 : decode cX12_next 27 = .ok (.aload_n 0, 1) := by decide +kernel
theorem d_X12_next_28 : decode cX12_next 28 = .ok (.getfield 144, 3) := by decide +kernel
theorem d_X12_next_31 : decode cX12_next 31 = .ok (.invokevirtual 147, 3) := by decide +kernel
theorem d_X12_next_34 : decode cX12_next 34 = .ok (.ireturn, 1) := by decide +kernel
def f_X12_next_0B (k0 : Mem → Option (Int32 × Mem)) (S : Mem) : Option (Int32 × Mem) := ((f_X12_byteAt (gI S 20 9) S).bind fun q5 => (if q5.1 = 32 then (k0 (sI q5.2 20 9 ((gI q5.2 20 9) + 1))) else ((f_X12_byteAt (gI q5.2 20 9) q5.2).bind fun q31 => (some (q31.1, q31.2)))))
set_option maxRecDepth 20000 in
theorem t_X12_next_0B {X : MC} {Γ : GG} (C : CX X Γ cX12_next 1 "TickPoolsModel" 1 21) (hr : X.2.2.2.2.2.2.2.2.1.sig.returnType = some .int) {k0 : Mem → Option (Int32 × Mem)} {q : Int32 × Mem} (hk0 : ∀  (S : Mem), k0  S = some q → ZZ X Γ 1 (QQ X Γ (some (aI q.1)) q.2) S 0 [(0, aR 20)] []) (S : Mem) (hf : f_X12_next_0B k0 S = some q) : ZZ X Γ 1 (QQ X Γ (some (aI q.1)) q.2) S 0 [(0, aR 20)] [] := by
  unfold f_X12_next_0B at hf
  refine z_aload_n (j := 0) C d_X12_next_0 rfl ?_
  refine z_aload_n (j := 0) C d_X12_next_1 rfl ?_
  refine zg_X12_at C rfl tw_1220 d_X12_next_2 ?_
  obtain ⟨q5, hF, hf⟩ := bd hf
  refine z_callV1 (rest := []) C [aI (gI S 20 9)] rfl (by decide) rfl rfl k_X12_byteAt tw_1408 ⟨by decide, by decide⟩ (Nat.le_of_ble_eq_true rfl) d_X12_next_5 (c_X12_byteAt C.inj hF) rfl ?_
  refine z_bipush (v := 32) C d_X12_next_8 (by decide) ?_
  refine z_icmp_ne (tgt := 26) C d_X12_next_10 (by decide) hf (fun c10 hf => ?_) (fun c10 hf => ?_)
  · refine z_aload_n (j := 0) C d_X12_next_26 rfl ?_
    refine z_aload_n (j := 0) C d_X12_next_27 rfl ?_
    refine zg_X12_at C rfl tw_1220 d_X12_next_28 ?_
    obtain ⟨q31, hF, hf⟩ := bd hf
    refine z_callV1 (rest := []) C [aI (gI q5.2 20 9)] rfl (by decide) rfl rfl k_X12_byteAt tw_1408 ⟨by decide, by decide⟩ (Nat.le_of_ble_eq_true rfl) d_X12_next_31 (c_X12_byteAt C.inj hF) rfl ?_
    exact r_i C hr rfl d_X12_next_34 hf
  · refine z_aload_n (j := 0) C d_X12_next_13 rfl ?_
    refine z_dup C d_X12_next_14 rfl ?_
    refine zg_X12_at C rfl tw_1220 d_X12_next_15 ?_
    refine z_iconst (v := 1) C d_X12_next_18 (by decide) ?_
    refine z_iadd C d_X12_next_19 ?_
    refine zp_X12_at C rfl tw_1220 d_X12_next_20 ?_
    refine z_goto (tgt := 0) C d_X12_next_23 (by decide) ?_
    exact z_sub [0] rfl (hk0 _ hf)
def f_X12_next_0 : Nat → Mem → Option (Int32 × Mem)
  | 0 => fun _ => none
  | n + 1 => f_X12_next_0B (f_X12_next_0 n)
theorem t_X12_next_0 {X : MC} {Γ : GG} (C : CX X Γ cX12_next 1 "TickPoolsModel" 1 21) (hr : X.2.2.2.2.2.2.2.2.1.sig.returnType = some .int) {q : Int32 × Mem} : ∀ (n : Nat) (S : Mem) (hf : f_X12_next_0 n S = some q), ZZ X Γ 1 (QQ X Γ (some (aI q.1)) q.2) S 0 [(0, aR 20)] []
  | 0, _, hf => nomatch (show (none : Option (Int32 × Mem)) = some q from hf)
  | n + 1, S, hf => t_X12_next_0B C hr (t_X12_next_0 C hr n) S hf
/-- TickPoolsModel.next()I -/
def f_X12_next (S : Mem) : Option (Int32 × Mem) := (f_X12_next_0  100000 S)
set_option maxRecDepth 20000 in
theorem c_X12_next {l : Launch} {Γ : GG} (hI : Inj Γ) {S : Mem} {q : Int32 × Mem} (hf : f_X12_next S = some q) : MM l Γ yX12_next cX12_next 1 (some .int) 1 21 [aR 20] S (some (aI q.1)) q.2 := by
  refine met_of hI "TickPoolsModel" rfl (by decide +kernel) (Nat.le_of_ble_eq_true rfl) (fun X hX C hr => ?_)
  unfold f_X12_next at hf
  show ZZ X Γ 1 _ S 0 [(0, aR 20)] []
  exact z_sub [0] rfl (t_X12_next_0 C hr  100000 _ hf)
theorem d_X12_isDigit_0 : decode cX12_isDigit 0 = .ok (.iload_n 0, 1) := by decide +kernel
theorem d_X12_isDigit_1 : decode cX12_isDigit 1 = .ok (.bipush 48, 2) := by decide +kernel
theorem d_X12_isDigit_3 : decode cX12_isDigit 3 = .ok (.if_icmp .lt 13, 3) := by decide +kernel
theorem d_X12_isDigit_6 : decode cX12_isDigit 6 = .ok (.iload_n 0, 1) := by decide +kernel
theorem d_X12_isDigit_7 : decode cX12_isDigit 7 = .ok (.bipush 57, 2) := by decide +kernel
theorem d_X12_isDigit_9 : decode cX12_isDigit 9 = .ok (.if_icmp .gt 7, 3) := by decide +kernel
theorem d_X12_isDigit_12 : decode cX12_isDigit 12 = .ok (.iconst 1, 1) := by decide +kernel
theorem d_X12_isDigit_13 : decode cX12_isDigit 13 = .ok (.goto 4, 3) := by decide +kernel
theorem d_X12_isDigit_16 : decode cX12_isDigit 16 = .ok (.iconst 0, 1) := by decide +kernel
theorem d_X12_isDigit_17 : decode cX12_isDigit 17 = .ok (.ireturn, 1) := by decide +kernel
def f_X12_isDigit_17 (s0 : Int32) (S : Mem) : Option (Int32 × Mem) := (if isB s0 = true then (some (s0, S)) else none)
set_option maxRecDepth 20000 in
theorem t_X12_isDigit_17 {X : MC} {Γ : GG} (C : CX X Γ cX12_isDigit 1 "TickPoolsModel" 0 0) (hr : X.2.2.2.2.2.2.2.2.1.sig.returnType = some .boolean) {q : Int32 × Mem} (s0 : Int32) (S : Mem) (hf : f_X12_isDigit_17 s0 S = some q) : ZZ X Γ 1 (QQ X Γ (some (aI q.1)) q.2) S 17 [] [aI s0] := by
  unfold f_X12_isDigit_17 at hf
  obtain ⟨hb17_0, hf⟩ := gd hf
  exact r_i C hr (isB_nar hb17_0).1 d_X12_isDigit_17 hf
def f_X12_isDigit_16 (S : Mem) : Option (Int32 × Mem) := (f_X12_isDigit_17  0 S)
set_option maxRecDepth 20000 in
theorem t_X12_isDigit_16 {X : MC} {Γ : GG} (C : CX X Γ cX12_isDigit 1 "TickPoolsModel" 0 0) (hr : X.2.2.2.2.2.2.2.2.1.sig.returnType = some .boolean) {q : Int32 × Mem} (S : Mem) (hf : f_X12_isDigit_16 S = some q) : ZZ X Γ 1 (QQ X Γ (some (aI q.1)) q.2) S 16 [] [] := by
  unfold f_X12_isDigit_16 at hf
  refine z_iconst (v := 0) C d_X12_isDigit_16 (by decide) ?_
  exact z_sub [] rfl (t_X12_isDigit_17 C hr  _ _ hf)
/-- TickPoolsModel.isDigit(I)Z -/
def f_X12_isDigit (p0 : Int32) (S : Mem) : Option (Int32 × Mem) := (if p0 < 48 then (f_X12_isDigit_16  S) else (if 57 < p0 then (f_X12_isDigit_16  S) else (f_X12_isDigit_17  1 S)))
set_option maxRecDepth 20000 in
theorem c_X12_isDigit {l : Launch} {Γ : GG} (hI : Inj Γ) {p0 : Int32} {S : Mem} {q : Int32 × Mem} (hf : f_X12_isDigit p0 S = some q) : MM l Γ yX12_isDigit cX12_isDigit 1 (some .boolean) 0 0 [aI p0] S (some (aI q.1)) q.2 := by
  refine met_of hI "TickPoolsModel" rfl (by decide +kernel) (Nat.le_of_ble_eq_true rfl) (fun X hX C hr => ?_)
  unfold f_X12_isDigit at hf
  show ZZ X Γ 1 _ S 0 [(0, aI p0)] []
  refine z_iload_n (j := 0) C d_X12_isDigit_0 rfl ?_
  refine z_bipush (v := 48) C d_X12_isDigit_1 (by decide) ?_
  refine z_icmp_lt (tgt := 16) C d_X12_isDigit_3 (by decide) hf (fun c3 hf => ?_) (fun c3 hf => ?_)
  · exact z_sub [] rfl (t_X12_isDigit_16 C hr  _ hf)
  · refine z_iload_n (j := 0) C d_X12_isDigit_6 rfl ?_
    refine z_bipush (v := 57) C d_X12_isDigit_7 (by decide) ?_
    refine z_icmp_gt (tgt := 16) C d_X12_isDigit_9 (by decide) hf (fun c9 hf => ?_) (fun c9 hf => ?_)
    · exact z_sub [] rfl (t_X12_isDigit_16 C hr  _ hf)
    · refine z_iconst (v := 1) C d_X12_isDigit_12 (by decide) ?_
      refine z_goto (tgt := 17) C d_X12_isDigit_13 (by decide) ?_
      exact z_sub [] rfl (t_X12_isDigit_17 C hr  _ _ hf)
theorem d_X12_isLetter_0 : decode cX12_isLetter 0 = .ok (.iload_n 0, 1) := by decide +kernel
theorem d_X12_isLetter_1 : decode cX12_isLetter 1 = .ok (.bipush 97, 2) := by decide +kernel
theorem d_X12_isLetter_3 : decode cX12_isLetter 3 = .ok (.if_icmp .lt 13, 3) := by decide +kernel
theorem d_X12_isLetter_6 : decode cX12_isLetter 6 = .ok (.iload_n 0, 1) := by decide +kernel
theorem d_X12_isLetter_7 : decode cX12_isLetter 7 = .ok (.bipush 122, 2) := by decide +kernel
theorem d_X12_isLetter_9 : decode cX12_isLetter 9 = .ok (.if_icmp .gt 7, 3) := by decide +kernel
theorem d_X12_isLetter_12 : decode cX12_isLetter 12 = .ok (.iconst 1, 1) := by decide +kernel
theorem d_X12_isLetter_13 : decode cX12_isLetter 13 = .ok (.goto 4, 3) := by decide +kernel
theorem d_X12_isLetter_16 : decode cX12_isLetter 16 = .ok (.iconst 0, 1) := by decide +kernel
theorem d_X12_isLetter_17 : decode cX12_isLetter 17 = .ok (.ireturn, 1) := by decide +kernel
def f_X12_isLetter_17 (s0 : Int32) (S : Mem) : Option (Int32 × Mem) := (if isB s0 = true then (some (s0, S)) else none)
set_option maxRecDepth 20000 in
theorem t_X12_isLetter_17 {X : MC} {Γ : GG} (C : CX X Γ cX12_isLetter 1 "TickPoolsModel" 0 0) (hr : X.2.2.2.2.2.2.2.2.1.sig.returnType = some .boolean) {q : Int32 × Mem} (s0 : Int32) (S : Mem) (hf : f_X12_isLetter_17 s0 S = some q) : ZZ X Γ 1 (QQ X Γ (some (aI q.1)) q.2) S 17 [] [aI s0] := by
  unfold f_X12_isLetter_17 at hf
  obtain ⟨hb17_0, hf⟩ := gd hf
  exact r_i C hr (isB_nar hb17_0).1 d_X12_isLetter_17 hf
def f_X12_isLetter_16 (S : Mem) : Option (Int32 × Mem) := (f_X12_isLetter_17  0 S)
set_option maxRecDepth 20000 in
theorem t_X12_isLetter_16 {X : MC} {Γ : GG} (C : CX X Γ cX12_isLetter 1 "TickPoolsModel" 0 0) (hr : X.2.2.2.2.2.2.2.2.1.sig.returnType = some .boolean) {q : Int32 × Mem} (S : Mem) (hf : f_X12_isLetter_16 S = some q) : ZZ X Γ 1 (QQ X Γ (some (aI q.1)) q.2) S 16 [] [] := by
  unfold f_X12_isLetter_16 at hf
  refine z_iconst (v := 0) C d_X12_isLetter_16 (by decide) ?_
  exact z_sub [] rfl (t_X12_isLetter_17 C hr  _ _ hf)
/-- TickPoolsModel.isLetter(I)Z -/
def f_X12_isLetter (p0 : Int32) (S : Mem) : Option (Int32 × Mem) := (if p0 < 97 then (f_X12_isLetter_16  S) else (if 122 < p0 then (f_X12_isLetter_16  S) else (f_X12_isLetter_17  1 S)))
set_option maxRecDepth 20000 in
theorem c_X12_isLetter {l : Launch} {Γ : GG} (hI : Inj Γ) {p0 : Int32} {S : Mem} {q : Int32 × Mem} (hf : f_X12_isLetter p0 S = some q) : MM l Γ yX12_isLetter cX12_isLetter 1 (some .boolean) 0 0 [aI p0] S (some (aI q.1)) q.2 := by
  refine met_of hI "TickPoolsModel" rfl (by decide +kernel) (Nat.le_of_ble_eq_true rfl) (fun X hX C hr => ?_)
  unfold f_X12_isLetter at hf
  show ZZ X Γ 1 _ S 0 [(0, aI p0)] []
  refine z_iload_n (j := 0) C d_X12_isLetter_0 rfl ?_
  refine z_bipush (v := 97) C d_X12_isLetter_1 (by decide) ?_
  refine z_icmp_lt (tgt := 16) C d_X12_isLetter_3 (by decide) hf (fun c3 hf => ?_) (fun c3 hf => ?_)
  · exact z_sub [] rfl (t_X12_isLetter_16 C hr  _ hf)
  · refine z_iload_n (j := 0) C d_X12_isLetter_6 rfl ?_
    refine z_bipush (v := 122) C d_X12_isLetter_7 (by decide) ?_
    refine z_icmp_gt (tgt := 16) C d_X12_isLetter_9 (by decide) hf (fun c9 hf => ?_) (fun c9 hf => ?_)
    · exact z_sub [] rfl (t_X12_isLetter_16 C hr  _ hf)
    · refine z_iconst (v := 1) C d_X12_isLetter_12 (by decide) ?_
      refine z_goto (tgt := 17) C d_X12_isLetter_13 (by decide) ?_
      exact z_sub [] rfl (t_X12_isLetter_17 C hr  _ _ hf)
theorem d_X12_wordHere_0 : decode cX12_wordHere 0 = .ok (.aload_n 0, 1) := by decide +kernel
theorem d_X12_wordHere_1 : decode cX12_wordHere 1 = .ok (.invokevirtual 151, 3) := by decide +kernel
theorem d_X12_wordHere_4 : decode cX12_wordHere 4 = .ok (.pop, 1) := by decide +kernel
theorem d_X12_wordHere_5 : decode cX12_wordHere 5 = .ok (.lconst 0, 1) := by decide +kernel
theorem d_X12_wordHere_6 : decode cX12_wordHere 6 = .ok (.lstore_n 1, 1) := by decide +kernel
theorem d_X12_wordHere_7 : decode cX12_wordHere 7 = .ok (.aload_n 0, 1) := by decide +kernel
theorem d_X12_wordHere_8 : decode cX12_wordHere 8 = .ok (.getfield 144, 3) := by decide +kernel
theorem d_X12_wordHere_11 : decode cX12_wordHere 11 = .ok (.istore_n 3, 1) := by decide +kernel
theorem d_X12_wordHere_12 : decode cX12_wordHere 12 = .ok (.aload_n 0, 1) := by decide +kernel
theorem d_X12_wordHere_13 : decode cX12_wordHere 13 = .ok (.iload_n 3, 1) := by decide +kernel
theorem d_X12_wordHere_14 : decode cX12_wordHere 14 = .ok (.invokevirtual 147, 3) := by decide +kernel
theorem d_X12_wordHere_17 : decode cX12_wordHere 17 = .ok (.invokestatic 154, 3) := by decide +kernel
theorem d_X12_wordHere_20 : decode cX12_wordHere 20 = .ok (.ifCond .eq 41, 3) := by decide +kernel
theorem d_X12_wordHere_23 : decode cX12_wordHere 23 = .ok (.iload_n 3, 1) := by decide +kernel
theorem d_X12_wordHere_24 : decode cX12_wordHere 24 = .ok (.aload_n 0, 1) := by decide +kernel
theorem d_X12_wordHere_25 : decode cX12_wordHere 25 = .ok (.getfield 144, 3) := by decide +kernel
theorem d_X12_wordHere_28 : decode cX12_wordHere 28 = .ok (.isub, 1) := by decide +kernel
theorem d_X12_wordHere_29 : decode cX12_wordHere 29 = .ok (.bipush 7, 2) := by decide +kernel
theorem d_X12_wordHere_31 : decode cX12_wordHere 31 = .ok (.if_icmp .ge 22, 3) := by decide +kernel
theorem d_X12_wordHere_34 : decode cX12_wordHere 34 = .ok (.ldc2_w 158, 3) := by decide +kernel
theorem d_X12_wordHere_37 : decode cX12_wordHere 37 = .ok (.lload_n 1, 1) := by decide +kernel
theorem d_X12_wordHere_38 : decode cX12_wordHere 38 = .ok (.lmul, 1) := by decide +kernel
theorem d_X12_wordHere_39 : decode cX12_wordHere 39 = .ok (.aload_n 0, 1) := by decide +kernel
theorem d_X12_wordHere_40 : decode cX12_wordHere 40 = .ok (.iload_n 3, 1) := by decide +kernel
theorem d_X12_wordHere_41 : decode cX12_wordHere 41 = .ok (.invokevirtual 147, 3) := by decide +kernel
theorem d_X12_wordHere_44 : decode cX12_wordHere 44 = .ok (.i2l, 1) := by decide +kernel
theorem d_X12_wordHere_45 : decode cX12_wordHere 45 = .ok (.ladd, 1) := by decide +kernel
theorem d_X12_wordHere_46 : decode cX12_wordHere 46 = .ok (.ldc2_w 160, 3) := by decide +kernel
theorem d_X12_wordHere_49 : decode cX12_wordHere 49 = .ok (.lsub, 1) := by decide +kernel
theorem d_X12_wordHere_50 : decode cX12_wordHere 50 = .ok (.goto 4, 3) := by decide +kernel
theorem d_X12_wordHere_53 : decode cX12_wordHere 53 = .ok (.lconst 0, 1) := by decide +kernel
theorem d_X12_wordHere_54 : decode cX12_wordHere 54 = .ok (.lstore_n 1, 1) := by decide +kernel
theorem d_X12_wordHere_55 : decode cX12_wordHere 55 = .ok (.iinc 3 1, 3) := by decide +kernel
theorem d_X12_wordHere_58 : decode cX12_wordHere 58 = .ok (.goto (-46), 3) := by decide +kernel
theorem d_X12_wordHere_61 : decode cX12_wordHere 61 = .ok (.iload_n 3, 1) := by decide +kernel
theorem d_X12_wordHere_62 : decode cX12_wordHere 62 = .ok (.aload_n 0, 1) := by decide +kernel
theorem d_X12_wordHere_63 : decode cX12_wordHere 63 = .ok (.getfield 144, 3) := by decide +kernel
theorem d_X12_wordHere_66 : decode cX12_wordHere 66 = .ok (.isub, 1) := by decide +kernel
theorem d_X12_wordHere_67 : decode cX12_wordHere 67 = .ok (.bipush 8, 2) := by decide +kernel
theorem d_X12_wordHere_69 : decode cX12_wordHere 69 = .ok (.if_icmp .ge 7, 3) := by decide +kernel
theorem d_X12_wordHere_72 : decode cX12_wordHere 72 = .ok (.lload_n 1, 1) := by decide +kernel
theorem d_X12_wordHere_73 : decode cX12_wordHere 73 = .ok (.goto 4, 3) := by decide +kernel
theorem d_X12_wordHere_76 : decode cX12_wordHere 76 = .ok (.lconst 0, 1) := by decide +kernel
theorem d_X12_wordHere_77 : decode cX12_wordHere 77 = .ok (.lreturn, 1) := by decide +kernel
def f_X12_wordHere_54 (k12 : Int64 → Int32 → Mem → Option (Int64 × Mem)) (v3 : Int32) (s0 : Int64) (S : Mem) : Option (Int64 × Mem) := (k12 s0 (v3 + 1) S)
set_option maxRecDepth 20000 in
theorem t_X12_wordHere_54 {X : MC} {Γ : GG} (C : CX X Γ cX12_wordHere 4 "TickPoolsModel" 2 41) (hr : X.2.2.2.2.2.2.2.2.1.sig.returnType = some .long) {k12 : Int64 → Int32 → Mem → Option (Int64 × Mem)} {q : Int64 × Mem} (hk12 : ∀ (v1 : Int64) (v3 : Int32) (S : Mem), k12 v1 v3 S = some q → ZZ X Γ 4 (QQ X Γ (some (aJ q.1)) q.2) S 12 [(0, aR 20), (1, aJ v1), (3, aI v3)] []) (v3 : Int32) (s0 : Int64) (S : Mem) (hf : f_X12_wordHere_54 k12 v3 s0 S = some q) : ZZ X Γ 4 (QQ X Γ (some (aJ q.1)) q.2) S 54 [(0, aR 20), (3, aI v3)] [aJ s0] := by
  unfold f_X12_wordHere_54 at hf
  refine z_lstore_n (lv' := [(1, aJ s0), (0, aR 20), (3, aI v3)]) C d_X12_wordHere_54 (by decide) rfl ?_
  refine z_iinc (j := 2) (v := (v3 + 1)) (lv' := [(3, aI (v3 + 1)), (1, aJ s0), (0, aR 20)]) C d_X12_wordHere_55 rfl rfl (by decide) rfl ?_
  refine z_goto (tgt := 12) C d_X12_wordHere_58 (by decide) ?_
  exact z_sub [2, 1, 0] rfl (hk12 _ _ _ hf)
def f_X12_wordHere_77 (s0 : Int64) (S : Mem) : Option (Int64 × Mem) := (some (s0, S))
set_option maxRecDepth 20000 in
theorem t_X12_wordHere_77 {X : MC} {Γ : GG} (C : CX X Γ cX12_wordHere 4 "TickPoolsModel" 2 41) (hr : X.2.2.2.2.2.2.2.2.1.sig.returnType = some .long) {q : Int64 × Mem} (s0 : Int64) (S : Mem) (hf : f_X12_wordHere_77 s0 S = some q) : ZZ X Γ 4 (QQ X Γ (some (aJ q.1)) q.2) S 77 [] [aJ s0] := by
  unfold f_X12_wordHere_77 at hf
  exact r_l C hr d_X12_wordHere_77 hf
def f_X12_wordHere_12B (k12 : Int64 → Int32 → Mem → Option (Int64 × Mem)) (v1 : Int64) (v3 : Int32) (S : Mem) : Option (Int64 × Mem) := ((f_X12_byteAt v3 S).bind fun q14 => ((f_X12_isLetter q14.1 q14.2).bind fun q17 => (if q17.1 = 0 then (if 8 ≤ (v3 - (gI q17.2 20 9)) then (f_X12_wordHere_77  0 q17.2) else (f_X12_wordHere_77  v1 q17.2)) else (if 7 ≤ (v3 - (gI q17.2 20 9)) then (f_X12_wordHere_54 k12 v3 0 q17.2) else ((f_X12_byteAt v3 q17.2).bind fun q41 => (f_X12_wordHere_54 k12 v3 (((27 * v1) + (q41.1.toInt64)) - 96) q41.2))))))
set_option maxRecDepth 20000 in
theorem t_X12_wordHere_12B {X : MC} {Γ : GG} (C : CX X Γ cX12_wordHere 4 "TickPoolsModel" 2 41) (hr : X.2.2.2.2.2.2.2.2.1.sig.returnType = some .long) {k12 : Int64 → Int32 → Mem → Option (Int64 × Mem)} {q : Int64 × Mem} (hk12 : ∀ (v1 : Int64) (v3 : Int32) (S : Mem), k12 v1 v3 S = some q → ZZ X Γ 4 (QQ X Γ (some (aJ q.1)) q.2) S 12 [(0, aR 20), (1, aJ v1), (3, aI v3)] []) (v1 : Int64) (v3 : Int32) (S : Mem) (hf : f_X12_wordHere_12B k12 v1 v3 S = some q) : ZZ X Γ 4 (QQ X Γ (some (aJ q.1)) q.2) S 12 [(0, aR 20), (1, aJ v1), (3, aI v3)] [] := by
  unfold f_X12_wordHere_12B at hf
  refine z_aload_n (j := 0) C d_X12_wordHere_12 rfl ?_
  refine z_iload_n (j := 2) C d_X12_wordHere_13 rfl ?_
  obtain ⟨q14, hF, hf⟩ := bd hf
  refine z_callV1 (rest := []) C [aI v3] rfl (by decide) rfl rfl k_X12_byteAt tw_1408 ⟨by decide, by decide⟩ (Nat.le_of_ble_eq_true rfl) d_X12_wordHere_14 (c_X12_byteAt C.inj hF) rfl ?_
  obtain ⟨q17, hF, hf⟩ := bd hf
  refine z_callS1 (rest := []) C [aI q14.1] k_X12_isLetter tw_1412 ⟨by decide, by decide⟩ (Nat.le_of_ble_eq_true rfl) d_X12_wordHere_17 (c_X12_isLetter C.inj hF) rfl ?_
  refine z_if_eq (tgt := 61) C d_X12_wordHere_20 (by decide) hf (fun c20 hf => ?_) (fun c20 hf => ?_)
  · refine z_iload_n (j := 2) C d_X12_wordHere_61 rfl ?_
    refine z_aload_n (j := 0) C d_X12_wordHere_62 rfl ?_
    refine zg_X12_at C rfl tw_1220 d_X12_wordHere_63 ?_
    refine z_isub C d_X12_wordHere_66 ?_
    refine z_bipush (v := 8) C d_X12_wordHere_67 (by decide) ?_
    refine z_icmp_ge (tgt := 76) C d_X12_wordHere_69 (by decide) hf (fun c69 hf => ?_) (fun c69 hf => ?_)
    · refine z_lconst (v := 0) C d_X12_wordHere_76 (by decide) ?_
      exact z_sub [] rfl (t_X12_wordHere_77 C hr  _ _ hf)
    · refine z_lload_n (j := 1) C d_X12_wordHere_72 rfl ?_
      refine z_goto (tgt := 77) C d_X12_wordHere_73 (by decide) ?_
      exact z_sub [] rfl (t_X12_wordHere_77 C hr  _ _ hf)
  · refine z_iload_n (j := 2) C d_X12_wordHere_23 rfl ?_
    refine z_aload_n (j := 0) C d_X12_wordHere_24 rfl ?_
    refine zg_X12_at C rfl tw_1220 d_X12_wordHere_25 ?_
    refine z_isub C d_X12_wordHere_28 ?_
    refine z_bipush (v := 7) C d_X12_wordHere_29 (by decide) ?_
    refine z_icmp_ge (tgt := 53) C d_X12_wordHere_31 (by decide) hf (fun c31 hf => ?_) (fun c31 hf => ?_)
    · refine z_lconst (v := 0) C d_X12_wordHere_53 (by decide) ?_
      exact z_sub [0, 2] rfl (t_X12_wordHere_54 C hr hk12 _ _ _ hf)
    · refine z_ldc2 (v := 27) C tw_1202 d_X12_wordHere_34 ?_
      refine z_lload_n (j := 1) C d_X12_wordHere_37 rfl ?_
      refine z_lmul C d_X12_wordHere_38 ?_
      refine z_aload_n (j := 0) C d_X12_wordHere_39 rfl ?_
      refine z_iload_n (j := 2) C d_X12_wordHere_40 rfl ?_
      obtain ⟨q41, hF, hf⟩ := bd hf
      refine z_callV1 (rest := [aJ (27 * v1)]) C [aI v3] rfl (by decide) rfl rfl k_X12_byteAt tw_1408 ⟨by decide, by decide⟩ (Nat.le_of_ble_eq_true rfl) d_X12_wordHere_41 (c_X12_byteAt C.inj hF) rfl ?_
      refine z_i2l C d_X12_wordHere_44 ?_
      refine z_ladd C d_X12_wordHere_45 ?_
      refine z_ldc2 (v := 96) C tw_1203 d_X12_wordHere_46 ?_
      refine z_lsub C d_X12_wordHere_49 ?_
      refine z_goto (tgt := 54) C d_X12_wordHere_50 (by decide) ?_
      exact z_sub [0, 2] rfl (t_X12_wordHere_54 C hr hk12 _ _ _ hf)
def f_X12_wordHere_12 : Nat → Int64 → Int32 → Mem → Option (Int64 × Mem)
  | 0 => fun _ _ _ => none
  | n + 1 => f_X12_wordHere_12B (f_X12_wordHere_12 n)
theorem t_X12_wordHere_12 {X : MC} {Γ : GG} (C : CX X Γ cX12_wordHere 4 "TickPoolsModel" 2 41) (hr : X.2.2.2.2.2.2.2.2.1.sig.returnType = some .long) {q : Int64 × Mem} : ∀ (n : Nat) (v1 : Int64) (v3 : Int32) (S : Mem) (hf : f_X12_wordHere_12 n v1 v3 S = some q), ZZ X Γ 4 (QQ X Γ (some (aJ q.1)) q.2) S 12 [(0, aR 20), (1, aJ v1), (3, aI v3)] []
  | 0, _, _, _, hf => nomatch (show (none : Option (Int64 × Mem)) = some q from hf)
  | n + 1, v1, v3, S, hf => t_X12_wordHere_12B C hr (t_X12_wordHere_12 C hr n) v1 v3 S hf
/-- TickPoolsModel.wordHere()J -/
def f_X12_wordHere (S : Mem) : Option (Int64 × Mem) := ((f_X12_next S).bind fun q1 => (f_X12_wordHere_12  100000 0 (gI q1.2 20 9) q1.2))
set_option maxRecDepth 20000 in
theorem c_X12_wordHere {l : Launch} {Γ : GG} (hI : Inj Γ) {S : Mem} {q : Int64 × Mem} (hf : f_X12_wordHere S = some q) : MM l Γ yX12_wordHere cX12_wordHere 4 (some .long) 2 41 [aR 20] S (some (aJ q.1)) q.2 := by
  refine met_of hI "TickPoolsModel" rfl (by decide +kernel) (Nat.le_of_ble_eq_true rfl) (fun X hX C hr => ?_)
  unfold f_X12_wordHere at hf
  show ZZ X Γ 4 _ S 0 [(0, aR 20)] []
  refine z_aload_n (j := 0) C d_X12_wordHere_0 rfl ?_
  obtain ⟨q1, hF, hf⟩ := bd hf
  refine z_callV1 (rest := []) C [] rfl (by decide) rfl rfl k_X12_next tw_1404 ⟨by decide, by decide⟩ (Nat.le_of_ble_eq_true rfl) d_X12_wordHere_1 (c_X12_next C.inj hF) rfl ?_
  refine z_pop C d_X12_wordHere_4 rfl ?_
  refine z_lconst (v := 0) C d_X12_wordHere_5 (by decide) ?_
  refine z_lstore_n (lv' := [(1, aJ 0), (0, aR 20)]) C d_X12_wordHere_6 (by decide) rfl ?_
  refine z_aload_n (j := 1) C d_X12_wordHere_7 rfl ?_
  refine zg_X12_at C rfl tw_1220 d_X12_wordHere_8 ?_
  refine z_istore_n (lv' := [(3, aI (gI q1.2 20 9)), (1, aJ 0), (0, aR 20)]) C d_X12_wordHere_11 (by decide) rfl ?_
  exact z_sub [2, 1, 0] rfl (t_X12_wordHere_12 C hr  100000 _ _ _ hf)
theorem d_X12_passWord_0 : decode cX12_passWord 0 = .ok (.aload_n 0, 1) := by decide +kernel
theorem d_X12_passWord_1 : decode cX12_passWord 1 = .ok (.aload_n 0, 1) := by decide +kernel
theorem d_X12_passWord_2 : decode cX12_passWord 2 = .ok (.getfield 144, 3) := by decide +kernel
theorem d_X12_passWord_5 : decode cX12_passWord 5 = .ok (.invokevirtual 147, 3) := by decide +kernel
theorem d_X12_passWord_8 : decode cX12_passWord 8 = .ok (.invokestatic 154, 3) := by decide +kernel
theorem d_X12_passWord_11 : decode cX12_passWord 11 = .ok (.ifCond .eq 16, 3) := by decide +kernel
theorem d_X12_passWord_14 : decode cX12_passWord 14 = .ok (.aload_n 0, 1) := by decide +kernel
theorem d_X12_passWord_15 : decode cX12_passWord 15 = .ok (.dup, 1) := by decide +kernel
theorem d_X12_passWord_16 : decode cX12_passWord 16 = .ok (.getfield 144, 3) := by decide +kernel
theorem d_X12_passWord_19 : decode cX12_passWord 19 = .ok (.iconst 1, 1) := by decide +kernel
theorem d_X12_passWord_20 : decode cX12_passWord 20 = .ok (.iadd, 1) := by decide +kernel
theorem d_X12_passWord_21 : decode cX12_passWord 21 = .ok (.putfield 144, 3) := by decide +kernel
theorem d_X12_passWord_24 : decode cX12_passWord 24 = .ok (.goto (-24), 3) := by decide +kernel
theorem d_X12_passWord_27 : decode cX12_passWord 27 = .ok (.return_, 1) := by decide +kernel
def f_X12_passWord_0B (k0 : Mem → Option (Unit × Mem)) (S : Mem) : Option (Unit × Mem) := ((f_X12_byteAt (gI S 20 9) S).bind fun q5 => ((f_X12_isLetter q5.1 q5.2).bind fun q8 => (if q8.1 = 0 then (some ((), q8.2)) else (k0 (sI q8.2 20 9 ((gI q8.2 20 9) + 1))))))
set_option maxRecDepth 20000 in
theorem t_X12_passWord_0B {X : MC} {Γ : GG} (C : CX X Γ cX12_passWord 1 "TickPoolsModel" 1 21) (hr : X.2.2.2.2.2.2.2.2.1.sig.returnType = none) {k0 : Mem → Option (Unit × Mem)} {q : Unit × Mem} (hk0 : ∀  (S : Mem), k0  S = some q → ZZ X Γ 1 (QQ X Γ none q.2) S 0 [(0, aR 20)] []) (S : Mem) (hf : f_X12_passWord_0B k0 S = some q) : ZZ X Γ 1 (QQ X Γ none q.2) S 0 [(0, aR 20)] [] := by
  unfold f_X12_passWord_0B at hf
  refine z_aload_n (j := 0) C d_X12_passWord_0 rfl ?_
  refine z_aload_n (j := 0) C d_X12_passWord_1 rfl ?_
  refine zg_X12_at C rfl tw_1220 d_X12_passWord_2 ?_
  obtain ⟨q5, hF, hf⟩ := bd hf
  refine z_callV1 (rest := []) C [aI (gI S 20 9)] rfl (by decide) rfl rfl k_X12_byteAt tw_1408 ⟨by decide, by decide⟩ (Nat.le_of_ble_eq_true rfl) d_X12_passWord_5 (c_X12_byteAt C.inj hF) rfl ?_
  obtain ⟨q8, hF, hf⟩ := bd hf
  refine z_callS1 (rest := []) C [aI q5.1] k_X12_isLetter tw_1412 ⟨by decide, by decide⟩ (Nat.le_of_ble_eq_true rfl) d_X12_passWord_8 (c_X12_isLetter C.inj hF) rfl ?_
  refine z_if_eq (tgt := 27) C d_X12_passWord_11 (by decide) hf (fun c11 hf => ?_) (fun c11 hf => ?_)
  · exact r_v C hr d_X12_passWord_27 hf
  · refine z_aload_n (j := 0) C d_X12_passWord_14 rfl ?_
    refine z_dup C d_X12_passWord_15 rfl ?_
    refine zg_X12_at C rfl tw_1220 d_X12_passWord_16 ?_
    refine z_iconst (v := 1) C d_X12_passWord_19 (by decide) ?_
    refine z_iadd C d_X12_passWord_20 ?_
    refine zp_X12_at C rfl tw_1220 d_X12_passWord_21 ?_
    refine z_goto (tgt := 0) C d_X12_passWord_24 (by decide) ?_
    exact z_sub [0] rfl (hk0 _ hf)
def f_X12_passWord_0 : Nat → Mem → Option (Unit × Mem)
  | 0 => fun _ => none
  | n + 1 => f_X12_passWord_0B (f_X12_passWord_0 n)
theorem t_X12_passWord_0 {X : MC} {Γ : GG} (C : CX X Γ cX12_passWord 1 "TickPoolsModel" 1 21) (hr : X.2.2.2.2.2.2.2.2.1.sig.returnType = none) {q : Unit × Mem} : ∀ (n : Nat) (S : Mem) (hf : f_X12_passWord_0 n S = some q), ZZ X Γ 1 (QQ X Γ none q.2) S 0 [(0, aR 20)] []
  | 0, _, hf => nomatch (show (none : Option (Unit × Mem)) = some q from hf)
  | n + 1, S, hf => t_X12_passWord_0B C hr (t_X12_passWord_0 C hr n) S hf
/-- TickPoolsModel.passWord()V -/
def f_X12_passWord (S : Mem) : Option (Unit × Mem) := (f_X12_passWord_0  100000 S)
set_option maxRecDepth 20000 in
theorem c_X12_passWord {l : Launch} {Γ : GG} (hI : Inj Γ) {S : Mem} {q : Unit × Mem} (hf : f_X12_passWord S = some q) : MM l Γ yX12_passWord cX12_passWord 1 (none) 1 21 [aR 20] S none q.2 := by
  refine met_of hI "TickPoolsModel" rfl (by decide +kernel) (Nat.le_of_ble_eq_true rfl) (fun X hX C hr => ?_)
  unfold f_X12_passWord at hf
  show ZZ X Γ 1 _ S 0 [(0, aR 20)] []
  exact z_sub [0] rfl (t_X12_passWord_0 C hr  100000 _ hf)
theorem d_X12_reads_0 : decode cX12_reads 0 = .ok (.aload_n 0, 1) := by decide +kernel
theorem d_X12_reads_1 : decode cX12_reads 1 = .ok (.invokevirtual 151, 3) := by decide +kernel
theorem d_X12_reads_4 : decode cX12_reads 4 = .ok (.invokestatic 162, 3) := by decide +kernel
theorem d_X12_reads_7 : decode cX12_reads 7 = .ok (.ifCond .ne 13, 3) := by decide +kernel
theorem d_X12_reads_10 : decode cX12_reads 10 = .ok (.aload_n 0, 1) := by decide +kernel
theorem d_X12_reads_11 : decode cX12_reads 11 = .ok (.iconst 0, 1) := by decide +kernel
theorem d_X12_reads_12 : decode cX12_reads 12 = .ok (.aload_n 0, 1) := by decide +kernel
theorem d_X12_reads_13 : decode cX12_reads 13 = .ok (.getfield 144, 3) := by decide +kernel
theorem d_X12_reads_16 : decode cX12_reads 16 = .ok (.invokevirtual 165, 3) := by decide +kernel
theorem d_X12_reads_19 : decode cX12_reads 19 = .ok (.ireturn, 1) := by decide +kernel
theorem d_X12_reads_20 : decode cX12_reads 20 = .ok (.aload_n 0, 1) := by decide +kernel
theorem d_X12_reads_21 : decode cX12_reads 21 = .ok (.getfield 144, 3) := by decide +kernel
theorem d_X12_reads_24 : decode cX12_reads 24 = .ok (.istore_n 3, 1) := by decide +kernel
theorem d_X12_reads_25 : decode cX12_reads 25 = .ok (.aload_n 0, 1) := by decide +kernel
theorem d_X12_reads_26 : decode cX12_reads 26 = .ok (.iconst 0, 1) := by decide +kernel
theorem d_X12_reads_27 : decode cX12_reads 27 = .ok (.putfield 169, 3) := by decide +kernel
theorem d_X12_reads_30 : decode cX12_reads 30 = .ok (.aload_n 0, 1) := by decide +kernel
theorem d_X12_reads_31 : decode cX12_reads 31 = .ok (.aload_n 0, 1) := by decide +kernel
theorem d_X12_reads_32 : decode cX12_reads 32 = .ok (.getfield 144, 3) := by decide +kernel
theorem d_X12_reads_35 : decode cX12_reads 35 = .ok (.invokevirtual 147, 3) := by decide +kernel
theorem d_X12_reads_38 : decode cX12_reads 38 = .ok (.invokestatic 162, 3) := by decide +kernel
theorem d_X12_reads_41 : decode cX12_reads 41 = .ok (.ifCond .eq 50, 3) := by decide +kernel
theorem d_X12_reads_44 : decode cX12_reads 44 = .ok (.aload_n 0, 1) := by decide +kernel
theorem d_X12_reads_45 : decode cX12_reads 45 = .ok (.getfield 144, 3) := by decide +kernel
theorem d_X12_reads_48 : decode cX12_reads 48 = .ok (.iload_n 3, 1) := by decide +kernel
theorem d_X12_reads_49 : decode cX12_reads 49 = .ok (.isub, 1) := by decide +kernel
theorem d_X12_reads_50 : decode cX12_reads 50 = .ok (.bipush 7, 2) := by decide +kernel
theorem d_X12_reads_52 : decode cX12_reads 52 = .ok (.if_icmp .ge 26, 3) := by decide +kernel
theorem d_X12_reads_55 : decode cX12_reads 55 = .ok (.aload_n 0, 1) := by decide +kernel
theorem d_X12_reads_56 : decode cX12_reads 56 = .ok (.bipush 10, 2) := by decide +kernel
theorem d_X12_reads_58 : decode cX12_reads 58 = .ok (.aload_n 0, 1) := by decide +kernel
theorem d_X12_reads_59 : decode cX12_reads 59 = .ok (.getfield 169, 3) := by decide +kernel
theorem d_X12_reads_62 : decode cX12_reads 62 = .ok (.imul, 1) := by decide +kernel
theorem d_X12_reads_63 : decode cX12_reads 63 = .ok (.aload_n 0, 1) := by decide +kernel
theorem d_X12_reads_64 : decode cX12_reads 64 = .ok (.aload_n 0, 1) := by decide +kernel
theorem d_X12_reads_65 : decode cX12_reads 65 = .ok (.getfield 144, 3) := by decide +kernel
theorem d_X12_reads_68 : decode cX12_reads 68 = .ok (.invokevirtual 147, 3) := by decide +kernel
theorem d_X12_reads_71 : decode cX12_reads 71 = .ok (.iadd, 1) := by decide +kernel
theorem d_X12_reads_72 : decode cX12_reads 72 = .ok (.bipush 48, 2) := by decide +kernel
theorem d_X12_reads_74 : decode cX12_reads 74 = .ok (.isub, 1) := by decide +kernel
theorem d_X12_reads_75 : decode cX12_reads 75 = .ok (.putfield 169, 3) := by decide +kernel
theorem d_X12_reads_78 : decode cX12_reads 78 = .ok (.aload_n 0, 1) := by decide +kernel
theorem d_X12_reads_79 : decode cX12_reads 79 = .ok (.dup, 1) := by decide +kernel
theorem d_X12_reads_80 : decode cX12_reads 80 = .ok (.getfield 144, 3) := by decide +kernel
theorem d_X12_reads_83 : decode cX12_reads 83 = .ok (.iconst 1, 1) := by decide +kernel
theorem d_X12_reads_84 : decode cX12_reads 84 = .ok (.iadd, 1) := by decide +kernel
theorem d_X12_reads_85 : decode cX12_reads 85 = .ok (.putfield 144, 3) := by decide +kernel
theorem d_X12_reads_88 : decode cX12_reads 88 = .ok (.goto (-58), 3) := by decide +kernel
theorem d_X12_reads_91 : decode cX12_reads 91 = .ok (.aload_n 0, 1) := by decide +kernel
theorem d_X12_reads_92 : decode cX12_reads 92 = .ok (.getfield 144, 3) := by decide +kernel
theorem d_X12_reads_95 : decode cX12_reads 95 = .ok (.iload_n 3, 1) := by decide +kernel
theorem d_X12_reads_96 : decode cX12_reads 96 = .ok (.isub, 1) := by decide +kernel
theorem d_X12_reads_97 : decode cX12_reads 97 = .ok (.bipush 7, 2) := by decide +kernel
theorem d_X12_reads_99 : decode cX12_reads 99 = .ok (.if_icmp .gt 18, 3) := by decide +kernel
theorem d_X12_reads_102 : decode cX12_reads 102 = .ok (.aload_n 0, 1) := by decide +kernel
theorem d_X12_reads_103 : decode cX12_reads 103 = .ok (.getfield 169, 3) := by decide +kernel
theorem d_X12_reads_106 : decode cX12_reads 106 = .ok (.i2l, 1) := by decide +kernel
theorem d_X12_reads_107 : decode cX12_reads 107 = .ok (.iload_n 1, 1) := by decide +kernel
theorem d_X12_reads_108 : decode cX12_reads 108 = .ok (.i2l, 1) := by decide +kernel
theorem d_X12_reads_109 : decode cX12_reads 109 = .ok (.iload_n 2, 1) := by decide +kernel
theorem d_X12_reads_110 : decode cX12_reads 110 = .ok (.i2l, 1) := by decide +kernel
theorem d_X12_reads_111 : decode cX12_reads 111 = .ok (.invokestatic 137, 3) := by decide +kernel
theorem d_X12_reads_114 : decode cX12_reads 114 = .ok (.ifCond .ne 12, 3) := by decide +kernel
theorem d_X12_reads_117 : decode cX12_reads 117 = .ok (.aload_n 0, 1) := by decide +kernel
theorem d_X12_reads_118 : decode cX12_reads 118 = .ok (.iconst 1, 1) := by decide +kernel
theorem d_X12_reads_119 : decode cX12_reads 119 = .ok (.iload_n 3, 1) := by decide +kernel
theorem d_X12_reads_120 : decode cX12_reads 120 = .ok (.invokevirtual 165, 3) := by decide +kernel
theorem d_X12_reads_123 : decode cX12_reads 123 = .ok (.ifCond .eq 7, 3) := by decide +kernel
theorem d_X12_reads_126 : decode cX12_reads 126 = .ok (.iconst 1, 1) := by decide +kernel
theorem d_X12_reads_127 : decode cX12_reads 127 = .ok (.goto 4, 3) := by decide +kernel
theorem d_X12_reads_130 : decode cX12_reads 130 = .ok (.iconst 0, 1) := by decide +kernel
theorem d_X12_reads_131 : decode cX12_reads 131 = .ok (.ireturn, 1) := by decide +kernel
def f_X12_reads_78 (k30 : Int32 → Int32 → Int32 → Mem → Option (Int32 × Mem)) (v1 : Int32) (v2 : Int32) (v3 : Int32) (S : Mem) : Option (Int32 × Mem) := (k30 v1 v2 v3 (sI S 20 9 ((gI S 20 9) + 1)))
set_option maxRecDepth 20000 in
theorem t_X12_reads_78 {X : MC} {Γ : GG} (C : CX X Γ cX12_reads 4 "TickPoolsModel" 2 41) (hr : X.2.2.2.2.2.2.2.2.1.sig.returnType = some .boolean) {k30 : Int32 → Int32 → Int32 → Mem → Option (Int32 × Mem)} {q : Int32 × Mem} (hk30 : ∀ (v1 : Int32) (v2 : Int32) (v3 : Int32) (S : Mem), k30 v1 v2 v3 S = some q → ZZ X Γ 4 (QQ X Γ (some (aI q.1)) q.2) S 30 [(0, aR 20), (1, aI v1), (2, aI v2), (3, aI v3)] []) (v1 : Int32) (v2 : Int32) (v3 : Int32) (S : Mem) (hf : f_X12_reads_78 k30 v1 v2 v3 S = some q) : ZZ X Γ 4 (QQ X Γ (some (aI q.1)) q.2) S 78 [(0, aR 20), (1, aI v1), (2, aI v2), (3, aI v3)] [] := by
  unfold f_X12_reads_78 at hf
  refine z_aload_n (j := 0) C d_X12_reads_78 rfl ?_
  refine z_dup C d_X12_reads_79 rfl ?_
  refine zg_X12_at C rfl tw_1220 d_X12_reads_80 ?_
  refine z_iconst (v := 1) C d_X12_reads_83 (by decide) ?_
  refine z_iadd C d_X12_reads_84 ?_
  refine zp_X12_at C rfl tw_1220 d_X12_reads_85 ?_
  refine z_goto (tgt := 30) C d_X12_reads_88 (by decide) ?_
  exact z_sub [0, 1, 2, 3] rfl (hk30 _ _ _ _ hf)
def f_X12_reads_131 (s0 : Int32) (S : Mem) : Option (Int32 × Mem) := (if isB s0 = true then (some (s0, S)) else none)
set_option maxRecDepth 20000 in
theorem t_X12_reads_131 {X : MC} {Γ : GG} (C : CX X Γ cX12_reads 4 "TickPoolsModel" 2 41) (hr : X.2.2.2.2.2.2.2.2.1.sig.returnType = some .boolean) {q : Int32 × Mem} (s0 : Int32) (S : Mem) (hf : f_X12_reads_131 s0 S = some q) : ZZ X Γ 4 (QQ X Γ (some (aI q.1)) q.2) S 131 [] [aI s0] := by
  unfold f_X12_reads_131 at hf
  obtain ⟨hb131_0, hf⟩ := gd hf
  exact r_i C hr (isB_nar hb131_0).1 d_X12_reads_131 hf
def f_X12_reads_126 (S : Mem) : Option (Int32 × Mem) := (f_X12_reads_131  1 S)
set_option maxRecDepth 20000 in
theorem t_X12_reads_126 {X : MC} {Γ : GG} (C : CX X Γ cX12_reads 4 "TickPoolsModel" 2 41) (hr : X.2.2.2.2.2.2.2.2.1.sig.returnType = some .boolean) {q : Int32 × Mem} (S : Mem) (hf : f_X12_reads_126 S = some q) : ZZ X Γ 4 (QQ X Γ (some (aI q.1)) q.2) S 126 [] [] := by
  unfold f_X12_reads_126 at hf
  refine z_iconst (v := 1) C d_X12_reads_126 (by decide) ?_
  refine z_goto (tgt := 131) C d_X12_reads_127 (by decide) ?_
  exact z_sub [] rfl (t_X12_reads_131 C hr  _ _ hf)
def f_X12_reads_117 (v3 : Int32) (S : Mem) : Option (Int32 × Mem) := ((f_X12_fails 1 v3 S).bind fun q120 => (if q120.1 = 0 then (f_X12_reads_131  0 q120.2) else (f_X12_reads_126  q120.2)))
set_option maxRecDepth 20000 in
theorem t_X12_reads_117 {X : MC} {Γ : GG} (C : CX X Γ cX12_reads 4 "TickPoolsModel" 2 41) (hr : X.2.2.2.2.2.2.2.2.1.sig.returnType = some .boolean) {q : Int32 × Mem} (v3 : Int32) (S : Mem) (hf : f_X12_reads_117 v3 S = some q) : ZZ X Γ 4 (QQ X Γ (some (aI q.1)) q.2) S 117 [(0, aR 20), (3, aI v3)] [] := by
  unfold f_X12_reads_117 at hf
  refine z_aload_n (j := 0) C d_X12_reads_117 rfl ?_
  refine z_iconst (v := 1) C d_X12_reads_118 (by decide) ?_
  refine z_iload_n (j := 1) C d_X12_reads_119 rfl ?_
  obtain ⟨q120, hF, hf⟩ := bd hf
  refine z_callV1 (rest := []) C [aI 1, aI v3] rfl (by decide) rfl rfl k_X12_fails tw_1415 ⟨by decide, by decide⟩ (Nat.le_of_ble_eq_true rfl) d_X12_reads_120 (c_X12_fails C.inj hF) rfl ?_
  refine z_if_eq (tgt := 130) C d_X12_reads_123 (by decide) hf (fun c123 hf => ?_) (fun c123 hf => ?_)
  · refine z_iconst (v := 0) C d_X12_reads_130 (by decide) ?_
    exact z_sub [] rfl (t_X12_reads_131 C hr  _ _ hf)
  · exact z_sub [] rfl (t_X12_reads_126 C hr  _ hf)
def f_X12_reads_30B (k30 : Int32 → Int32 → Int32 → Mem → Option (Int32 × Mem)) (v1 : Int32) (v2 : Int32) (v3 : Int32) (S : Mem) : Option (Int32 × Mem) := ((f_X12_byteAt (gI S 20 9) S).bind fun q35 => ((f_X12_isDigit q35.1 q35.2).bind fun q38 => (if q38.1 = 0 then (if 7 < ((gI q38.2 20 9) - v3) then (f_X12_reads_117  v3 q38.2) else ((f_X12_isIn (((gI q38.2 20 11) : Int32).toInt64) (v1.toInt64) (v2.toInt64) q38.2).bind fun q111 => (if q111.1 = 0 then (f_X12_reads_117  v3 q111.2) else (f_X12_reads_126  q111.2)))) else (if 7 ≤ ((gI q38.2 20 9) - v3) then (f_X12_reads_78 k30 v1 v2 v3 q38.2) else ((f_X12_byteAt (gI q38.2 20 9) q38.2).bind fun q68 => (f_X12_reads_78 k30 v1 v2 v3 (sI q68.2 20 11 (((10 * (gI q38.2 20 11)) + q68.1) - 48))))))))
set_option maxRecDepth 20000 in
theorem t_X12_reads_30B {X : MC} {Γ : GG} (C : CX X Γ cX12_reads 4 "TickPoolsModel" 2 41) (hr : X.2.2.2.2.2.2.2.2.1.sig.returnType = some .boolean) {k30 : Int32 → Int32 → Int32 → Mem → Option (Int32 × Mem)} {q : Int32 × Mem} (hk30 : ∀ (v1 : Int32) (v2 : Int32) (v3 : Int32) (S : Mem), k30 v1 v2 v3 S = some q → ZZ X Γ 4 (QQ X Γ (some (aI q.1)) q.2) S 30 [(0, aR 20), (1, aI v1), (2, aI v2), (3, aI v3)] []) (v1 : Int32) (v2 : Int32) (v3 : Int32) (S : Mem) (hf : f_X12_reads_30B k30 v1 v2 v3 S = some q) : ZZ X Γ 4 (QQ X Γ (some (aI q.1)) q.2) S 30 [(0, aR 20), (1, aI v1), (2, aI v2), (3, aI v3)] [] := by
  unfold f_X12_reads_30B at hf
  refine z_aload_n (j := 0) C d_X12_reads_30 rfl ?_
  refine z_aload_n (j := 0) C d_X12_reads_31 rfl ?_
  refine zg_X12_at C rfl tw_1220 d_X12_reads_32 ?_
  obtain ⟨q35, hF, hf⟩ := bd hf
  refine z_callV1 (rest := []) C [aI (gI S 20 9)] rfl (by decide) rfl rfl k_X12_byteAt tw_1408 ⟨by decide, by decide⟩ (Nat.le_of_ble_eq_true rfl) d_X12_reads_35 (c_X12_byteAt C.inj hF) rfl ?_
  obtain ⟨q38, hF, hf⟩ := bd hf
  refine z_callS1 (rest := []) C [aI q35.1] k_X12_isDigit tw_1431 ⟨by decide, by decide⟩ (Nat.le_of_ble_eq_true rfl) d_X12_reads_38 (c_X12_isDigit C.inj hF) rfl ?_
  refine z_if_eq (tgt := 91) C d_X12_reads_41 (by decide) hf (fun c41 hf => ?_) (fun c41 hf => ?_)
  · refine z_aload_n (j := 0) C d_X12_reads_91 rfl ?_
    refine zg_X12_at C rfl tw_1220 d_X12_reads_92 ?_
    refine z_iload_n (j := 3) C d_X12_reads_95 rfl ?_
    refine z_isub C d_X12_reads_96 ?_
    refine z_bipush (v := 7) C d_X12_reads_97 (by decide) ?_
    refine z_icmp_gt (tgt := 117) C d_X12_reads_99 (by decide) hf (fun c99 hf => ?_) (fun c99 hf => ?_)
    · exact z_sub [0, 3] rfl (t_X12_reads_117 C hr  _ _ hf)
    · refine z_aload_n (j := 0) C d_X12_reads_102 rfl ?_
      refine zg_X12_number C rfl tw_1222 d_X12_reads_103 ?_
      refine z_i2l C d_X12_reads_106 ?_
      refine z_iload_n (j := 1) C d_X12_reads_107 rfl ?_
      refine z_i2l C d_X12_reads_108 ?_
      refine z_iload_n (j := 2) C d_X12_reads_109 rfl ?_
      refine z_i2l C d_X12_reads_110 ?_
      obtain ⟨q111, hF, hf⟩ := bd hf
      refine z_callS1 (rest := []) C [aJ (((gI q38.2 20 11) : Int32).toInt64), aJ (v1.toInt64), aJ (v2.toInt64)] k_X12_isIn tw_1385 ⟨by decide, by decide⟩ (Nat.le_of_ble_eq_true rfl) d_X12_reads_111 (c_X12_isIn C.inj hF) rfl ?_
      refine z_if_ne (tgt := 126) C d_X12_reads_114 (by decide) hf (fun c114 hf => ?_) (fun c114 hf => ?_)
      · exact z_sub [] rfl (t_X12_reads_126 C hr  _ hf)
      · exact z_sub [0, 3] rfl (t_X12_reads_117 C hr  _ _ hf)
  · refine z_aload_n (j := 0) C d_X12_reads_44 rfl ?_
    refine zg_X12_at C rfl tw_1220 d_X12_reads_45 ?_
    refine z_iload_n (j := 3) C d_X12_reads_48 rfl ?_
    refine z_isub C d_X12_reads_49 ?_
    refine z_bipush (v := 7) C d_X12_reads_50 (by decide) ?_
    refine z_icmp_ge (tgt := 78) C d_X12_reads_52 (by decide) hf (fun c52 hf => ?_) (fun c52 hf => ?_)
    · exact z_sub [0, 1, 2, 3] rfl (t_X12_reads_78 C hr hk30 _ _ _ _ hf)
    · refine z_aload_n (j := 0) C d_X12_reads_55 rfl ?_
      refine z_bipush (v := 10) C d_X12_reads_56 (by decide) ?_
      refine z_aload_n (j := 0) C d_X12_reads_58 rfl ?_
      refine zg_X12_number C rfl tw_1222 d_X12_reads_59 ?_
      refine z_imul C d_X12_reads_62 ?_
      refine z_aload_n (j := 0) C d_X12_reads_63 rfl ?_
      refine z_aload_n (j := 0) C d_X12_reads_64 rfl ?_
      refine zg_X12_at C rfl tw_1220 d_X12_reads_65 ?_
      obtain ⟨q68, hF, hf⟩ := bd hf
      refine z_callV1 (rest := [aI (10 * (gI q38.2 20 11)), aR 20]) C [aI (gI q38.2 20 9)] rfl (by decide) rfl rfl k_X12_byteAt tw_1408 ⟨by decide, by decide⟩ (Nat.le_of_ble_eq_true rfl) d_X12_reads_68 (c_X12_byteAt C.inj hF) rfl ?_
      refine z_iadd C d_X12_reads_71 ?_
      refine z_bipush (v := 48) C d_X12_reads_72 (by decide) ?_
      refine z_isub C d_X12_reads_74 ?_
      refine zp_X12_number C rfl tw_1222 d_X12_reads_75 ?_
      exact z_sub [0, 1, 2, 3] rfl (t_X12_reads_78 C hr hk30 _ _ _ _ hf)
def f_X12_reads_30 : Nat → Int32 → Int32 → Int32 → Mem → Option (Int32 × Mem)
  | 0 => fun _ _ _ _ => none
  | n + 1 => f_X12_reads_30B (f_X12_reads_30 n)
theorem t_X12_reads_30 {X : MC} {Γ : GG} (C : CX X Γ cX12_reads 4 "TickPoolsModel" 2 41) (hr : X.2.2.2.2.2.2.2.2.1.sig.returnType = some .boolean) {q : Int32 × Mem} : ∀ (n : Nat) (v1 : Int32) (v2 : Int32) (v3 : Int32) (S : Mem) (hf : f_X12_reads_30 n v1 v2 v3 S = some q), ZZ X Γ 4 (QQ X Γ (some (aI q.1)) q.2) S 30 [(0, aR 20), (1, aI v1), (2, aI v2), (3, aI v3)] []
  | 0, _, _, _, _, hf => nomatch (show (none : Option (Int32 × Mem)) = some q from hf)
  | n + 1, v1, v2, v3, S, hf => t_X12_reads_30B C hr (t_X12_reads_30 C hr n) v1 v2 v3 S hf
def f_X12_reads_25 (v1 : Int32) (v2 : Int32) (v3 : Int32) (S : Mem) : Option (Int32 × Mem) := (f_X12_reads_30  100000 v1 v2 v3 (sI S 20 11 0))
set_option maxRecDepth 20000 in
theorem t_X12_reads_25 {X : MC} {Γ : GG} (C : CX X Γ cX12_reads 4 "TickPoolsModel" 2 41) (hr : X.2.2.2.2.2.2.2.2.1.sig.returnType = some .boolean) {q : Int32 × Mem} (v1 : Int32) (v2 : Int32) (v3 : Int32) (S : Mem) (hf : f_X12_reads_25 v1 v2 v3 S = some q) : ZZ X Γ 4 (QQ X Γ (some (aI q.1)) q.2) S 25 [(0, aR 20), (1, aI v1), (2, aI v2), (3, aI v3)] [] := by
  unfold f_X12_reads_25 at hf
  refine z_aload_n (j := 0) C d_X12_reads_25 rfl ?_
  refine z_iconst (v := 0) C d_X12_reads_26 (by decide) ?_
  refine zp_X12_number C rfl tw_1222 d_X12_reads_27 ?_
  exact z_sub [0, 1, 2, 3] rfl (t_X12_reads_30 C hr  100000 _ _ _ _ hf)
/-- TickPoolsModel.reads(II)Z -/
def f_X12_reads (p1 : Int32) (p2 : Int32) (S : Mem) : Option (Int32 × Mem) := ((f_X12_next S).bind fun q1 => ((f_X12_isDigit q1.1 q1.2).bind fun q4 => (if q4.1 = 0 then ((f_X12_fails 0 (gI q4.2 20 9) q4.2).bind fun q16 => (if isB q16.1 = true then (some (q16.1, q16.2)) else none)) else (f_X12_reads_25  p1 p2 (gI q4.2 20 9) q4.2))))
set_option maxRecDepth 20000 in
theorem c_X12_reads {l : Launch} {Γ : GG} (hI : Inj Γ) {p1 : Int32} {p2 : Int32} {S : Mem} {q : Int32 × Mem} (hf : f_X12_reads p1 p2 S = some q) : MM l Γ yX12_reads cX12_reads 4 (some .boolean) 2 41 [aR 20, aI p1, aI p2] S (some (aI q.1)) q.2 := by
  refine met_of hI "TickPoolsModel" rfl (by decide +kernel) (Nat.le_of_ble_eq_true rfl) (fun X hX C hr => ?_)
  unfold f_X12_reads at hf
  show ZZ X Γ 4 _ S 0 [(0, aR 20), (1, aI p1), (2, aI p2)] []
  refine z_aload_n (j := 0) C d_X12_reads_0 rfl ?_
  obtain ⟨q1, hF, hf⟩ := bd hf
  refine z_callV1 (rest := []) C [] rfl (by decide) rfl rfl k_X12_next tw_1404 ⟨by decide, by decide⟩ (Nat.le_of_ble_eq_true rfl) d_X12_reads_1 (c_X12_next C.inj hF) rfl ?_
  obtain ⟨q4, hF, hf⟩ := bd hf
  refine z_callS1 (rest := []) C [aI q1.1] k_X12_isDigit tw_1431 ⟨by decide, by decide⟩ (Nat.le_of_ble_eq_true rfl) d_X12_reads_4 (c_X12_isDigit C.inj hF) rfl ?_
  refine z_if_ne (tgt := 20) C d_X12_reads_7 (by decide) hf (fun c7 hf => ?_) (fun c7 hf => ?_)
  · refine z_aload_n (j := 0) C d_X12_reads_20 rfl ?_
    refine zg_X12_at C rfl tw_1220 d_X12_reads_21 ?_
    refine z_istore_n (lv' := [(3, aI (gI q4.2 20 9)), (0, aR 20), (1, aI p1), (2, aI p2)]) C d_X12_reads_24 (by decide) rfl ?_
    exact z_sub [1, 2, 3, 0] rfl (t_X12_reads_25 C hr  _ _ _ _ hf)
  · refine z_aload_n (j := 0) C d_X12_reads_10 rfl ?_
    refine z_iconst (v := 0) C d_X12_reads_11 (by decide) ?_
    refine z_aload_n (j := 0) C d_X12_reads_12 rfl ?_
    refine zg_X12_at C rfl tw_1220 d_X12_reads_13 ?_
    obtain ⟨q16, hF, hf⟩ := bd hf
    refine z_callV1 (rest := []) C [aI 0, aI (gI q4.2 20 9)] rfl (by decide) rfl rfl k_X12_fails tw_1415 ⟨by decide, by decide⟩ (Nat.le_of_ble_eq_true rfl) d_X12_reads_16 (c_X12_fails C.inj hF) rfl ?_
    obtain ⟨hb19_1, hf⟩ := gd hf
    exact r_i C hr (isB_nar hb19_1).1 d_X12_reads_19 hf
theorem d_X12_takesSign_0 : decode cX12_takesSign 0 = .ok (.aload_n 0, 1) := by decide +kernel
theorem d_X12_takesSign_1 : decode cX12_takesSign 1 = .ok (.invokevirtual 151, 3) := by decide +kernel
theorem d_X12_takesSign_4 : decode cX12_takesSign 4 = .ok (.iload_n 1, 1) := by decide +kernel
theorem d_X12_takesSign_5 : decode cX12_takesSign 5 = .ok (.if_icmp .eq 5, 3) := by decide +kernel
theorem d_X12_takesSign_8 : decode cX12_takesSign 8 = .ok (.iconst 0, 1) := by decide +kernel
theorem d_X12_takesSign_9 : decode cX12_takesSign 9 = .ok (.ireturn, 1) := by decide +kernel
theorem d_X12_takesSign_10 : decode cX12_takesSign 10 = .ok (.aload_n 0, 1) := by decide +kernel
theorem d_X12_takesSign_11 : decode cX12_takesSign 11 = .ok (.dup, 1) := by decide +kernel
theorem d_X12_takesSign_12 : decode cX12_takesSign 12 = .ok (.getfield 144, 3) := by decide +kernel
theorem d_X12_takesSign_15 : decode cX12_takesSign 15 = .ok (.iconst 1, 1) := by decide +kernel
theorem d_X12_takesSign_16 : decode cX12_takesSign 16 = .ok (.iadd, 1) := by decide +kernel
theorem d_X12_takesSign_17 : decode cX12_takesSign 17 = .ok (.putfield 144, 3) := by decide +kernel
theorem d_X12_takesSign_20 : decode cX12_takesSign 20 = .ok (.iconst 1, 1) := by decide +kernel
theorem d_X12_takesSign_21 : decode cX12_takesSign 21 = .ok (.ireturn, 1) := by decide +kernel
/-- TickPoolsModel.takesSign(I)Z -/
def f_X12_takesSign (p1 : Int32) (S : Mem) : Option (Int32 × Mem) := ((f_X12_next S).bind fun q1 => (if q1.1 = p1 then (some (1, (sI q1.2 20 9 ((gI q1.2 20 9) + 1)))) else (some (0, q1.2))))
set_option maxRecDepth 20000 in
theorem c_X12_takesSign {l : Launch} {Γ : GG} (hI : Inj Γ) {p1 : Int32} {S : Mem} {q : Int32 × Mem} (hf : f_X12_takesSign p1 S = some q) : MM l Γ yX12_takesSign cX12_takesSign 2 (some .boolean) 2 41 [aR 20, aI p1] S (some (aI q.1)) q.2 := by
  refine met_of hI "TickPoolsModel" rfl (by decide +kernel) (Nat.le_of_ble_eq_true rfl) (fun X hX C hr => ?_)
  unfold f_X12_takesSign at hf
  show ZZ X Γ 2 _ S 0 [(0, aR 20), (1, aI p1)] []
  refine z_aload_n (j := 0) C d_X12_takesSign_0 rfl ?_
  obtain ⟨q1, hF, hf⟩ := bd hf
  refine z_callV1 (rest := []) C [] rfl (by decide) rfl rfl k_X12_next tw_1404 ⟨by decide, by decide⟩ (Nat.le_of_ble_eq_true rfl) d_X12_takesSign_1 (c_X12_next C.inj hF) rfl ?_
  refine z_iload_n (j := 1) C d_X12_takesSign_4 rfl ?_
  refine z_icmp_eq (tgt := 10) C d_X12_takesSign_5 (by decide) hf (fun c5 hf => ?_) (fun c5 hf => ?_)
  · refine z_aload_n (j := 0) C d_X12_takesSign_10 rfl ?_
    refine z_dup C d_X12_takesSign_11 rfl ?_
    refine zg_X12_at C rfl tw_1220 d_X12_takesSign_12 ?_
    refine z_iconst (v := 1) C d_X12_takesSign_15 (by decide) ?_
    refine z_iadd C d_X12_takesSign_16 ?_
    refine zp_X12_at C rfl tw_1220 d_X12_takesSign_17 ?_
    refine z_iconst (v := 1) C d_X12_takesSign_20 (by decide) ?_
    exact r_i C hr (by decide) d_X12_takesSign_21 hf
  · refine z_iconst (v := 0) C d_X12_takesSign_8 (by decide) ?_
    exact r_i C hr (by decide) d_X12_takesSign_9 hf
theorem d_X12_readsMarket_0 : decode cX12_readsMarket 0 = .ok (.aload_n 0, 1) := by decide +kernel
theorem d_X12_readsMarket_1 : decode cX12_readsMarket 1 = .ok (.getfield 172, 3) := by decide +kernel
theorem d_X12_readsMarket_4 : decode cX12_readsMarket 4 = .ok (.ifCond .le 10, 3) := by decide +kernel
theorem d_X12_readsMarket_7 : decode cX12_readsMarket 7 = .ok (.aload_n 0, 1) := by decide +kernel
theorem d_X12_readsMarket_8 : decode cX12_readsMarket 8 = .ok (.iconst 2, 1) := by decide +kernel
theorem d_X12_readsMarket_9 : decode cX12_readsMarket 9 = .ok (.iload_n 1, 1) := by decide +kernel
theorem d_X12_readsMarket_10 : decode cX12_readsMarket 10 = .ok (.invokevirtual 165, 3) := by decide +kernel
theorem d_X12_readsMarket_13 : decode cX12_readsMarket 13 = .ok (.ireturn, 1) := by decide +kernel
theorem d_X12_readsMarket_14 : decode cX12_readsMarket 14 = .ok (.aload_n 0, 1) := by decide +kernel
theorem d_X12_readsMarket_15 : decode cX12_readsMarket 15 = .ok (.invokevirtual 175, 3) := by decide +kernel
theorem d_X12_readsMarket_18 : decode cX12_readsMarket 18 = .ok (.aload_n 0, 1) := by decide +kernel
theorem d_X12_readsMarket_19 : decode cX12_readsMarket 19 = .ok (.iconst 2, 1) := by decide +kernel
theorem d_X12_readsMarket_20 : decode cX12_readsMarket 20 = .ok (.iconst 5, 1) := by decide +kernel
theorem d_X12_readsMarket_21 : decode cX12_readsMarket 21 = .ok (.invokevirtual 178, 3) := by decide +kernel
theorem d_X12_readsMarket_24 : decode cX12_readsMarket 24 = .ok (.ifCond .ne 5, 3) := by decide +kernel
theorem d_X12_readsMarket_27 : decode cX12_readsMarket 27 = .ok (.iconst 0, 1) := by decide +kernel
theorem d_X12_readsMarket_28 : decode cX12_readsMarket 28 = .ok (.ireturn, 1) := by decide +kernel
theorem d_X12_readsMarket_29 : decode cX12_readsMarket 29 = .ok (.aload_n 0, 1) := by decide +kernel
theorem d_X12_readsMarket_30 : decode cX12_readsMarket 30 = .ok (.getfield 169, 3) := by decide +kernel
theorem d_X12_readsMarket_33 : decode cX12_readsMarket 33 = .ok (.istore_n 2, 1) := by decide +kernel
theorem d_X12_readsMarket_34 : decode cX12_readsMarket 34 = .ok (.aload_n 0, 1) := by decide +kernel
theorem d_X12_readsMarket_35 : decode cX12_readsMarket 35 = .ok (.iconst 1, 1) := by decide +kernel
theorem d_X12_readsMarket_36 : decode cX12_readsMarket 36 = .ok (.iconst 4, 1) := by decide +kernel
theorem d_X12_readsMarket_37 : decode cX12_readsMarket 37 = .ok (.invokevirtual 178, 3) := by decide +kernel
theorem d_X12_readsMarket_40 : decode cX12_readsMarket 40 = .ok (.ifCond .ne 5, 3) := by decide +kernel
theorem d_X12_readsMarket_43 : decode cX12_readsMarket 43 = .ok (.iconst 0, 1) := by decide +kernel
theorem d_X12_readsMarket_44 : decode cX12_readsMarket 44 = .ok (.ireturn, 1) := by decide +kernel
theorem d_X12_readsMarket_45 : decode cX12_readsMarket 45 = .ok (.aload_n 0, 1) := by decide +kernel
theorem d_X12_readsMarket_46 : decode cX12_readsMarket 46 = .ok (.iload_n 2, 1) := by decide +kernel
theorem d_X12_readsMarket_47 : decode cX12_readsMarket 47 = .ok (.putfield 172, 3) := by decide +kernel
theorem d_X12_readsMarket_50 : decode cX12_readsMarket 50 = .ok (.aload_n 0, 1) := by decide +kernel
theorem d_X12_readsMarket_51 : decode cX12_readsMarket 51 = .ok (.aload_n 0, 1) := by decide +kernel
theorem d_X12_readsMarket_52 : decode cX12_readsMarket 52 = .ok (.getfield 169, 3) := by decide +kernel
theorem d_X12_readsMarket_55 : decode cX12_readsMarket 55 = .ok (.putfield 181, 3) := by decide +kernel
theorem d_X12_readsMarket_58 : decode cX12_readsMarket 58 = .ok (.iconst 1, 1) := by decide +kernel
theorem d_X12_readsMarket_59 : decode cX12_readsMarket 59 = .ok (.ireturn, 1) := by decide +kernel
def f_X12_readsMarket_34 (v2 : Int32) (S : Mem) : Option (Int32 × Mem) := ((f_X12_reads 1 4 S).bind fun q37 => (if q37.1 = 0 then (some (0, q37.2)) else (some (1, (sI (sI q37.2 20 24 v2) 20 25 (gI (sI q37.2 20 24 v2) 20 11))))))
set_option maxRecDepth 20000 in
theorem t_X12_readsMarket_34 {X : MC} {Γ : GG} (C : CX X Γ cX12_readsMarket 3 "TickPoolsModel" 3 64) (hr : X.2.2.2.2.2.2.2.2.1.sig.returnType = some .boolean) {q : Int32 × Mem} (v2 : Int32) (S : Mem) (hf : f_X12_readsMarket_34 v2 S = some q) : ZZ X Γ 3 (QQ X Γ (some (aI q.1)) q.2) S 34 [(0, aR 20), (2, aI v2)] [] := by
  unfold f_X12_readsMarket_34 at hf
  refine z_aload_n (j := 0) C d_X12_readsMarket_34 rfl ?_
  refine z_iconst (v := 1) C d_X12_readsMarket_35 (by decide) ?_
  refine z_iconst (v := 4) C d_X12_readsMarket_36 (by decide) ?_
  obtain ⟨q37, hF, hf⟩ := bd hf
  refine z_callV1 (rest := []) C [aI 1, aI 4] rfl (by decide) rfl rfl k_X12_reads tw_1427 ⟨by decide, by decide⟩ (Nat.le_of_ble_eq_true rfl) d_X12_readsMarket_37 (c_X12_reads C.inj hF) rfl ?_
  refine z_if_ne (tgt := 45) C d_X12_readsMarket_40 (by decide) hf (fun c40 hf => ?_) (fun c40 hf => ?_)
  · refine z_aload_n (j := 0) C d_X12_readsMarket_45 rfl ?_
    refine z_iload_n (j := 1) C d_X12_readsMarket_46 rfl ?_
    refine zp_X12_readThings C rfl tw_1235 d_X12_readsMarket_47 ?_
    refine z_aload_n (j := 0) C d_X12_readsMarket_50 rfl ?_
    refine z_aload_n (j := 0) C d_X12_readsMarket_51 rfl ?_
    refine zg_X12_number C rfl tw_1222 d_X12_readsMarket_52 ?_
    refine zp_X12_readPeople C rfl tw_1236 d_X12_readsMarket_55 ?_
    refine z_iconst (v := 1) C d_X12_readsMarket_58 (by decide) ?_
    exact r_i C hr (by decide) d_X12_readsMarket_59 hf
  · refine z_iconst (v := 0) C d_X12_readsMarket_43 (by decide) ?_
    exact r_i C hr (by decide) d_X12_readsMarket_44 hf
/-- TickPoolsModel.readsMarket(I)Z -/
def f_X12_readsMarket (p1 : Int32) (S : Mem) : Option (Int32 × Mem) := (if (gI S 20 24) ≤ 0 then ((f_X12_passWord S).bind fun q15 => ((f_X12_reads 2 5 q15.2).bind fun q21 => (if q21.1 = 0 then (some (0, q21.2)) else (f_X12_readsMarket_34  (gI q21.2 20 11) q21.2)))) else ((f_X12_fails 2 p1 S).bind fun q10 => (if isB q10.1 = true then (some (q10.1, q10.2)) else none)))
set_option maxRecDepth 20000 in
theorem c_X12_readsMarket {l : Launch} {Γ : GG} (hI : Inj Γ) {p1 : Int32} {S : Mem} {q : Int32 × Mem} (hf : f_X12_readsMarket p1 S = some q) : MM l Γ yX12_readsMarket cX12_readsMarket 3 (some .boolean) 3 64 [aR 20, aI p1] S (some (aI q.1)) q.2 := by
  refine met_of hI "TickPoolsModel" rfl (by decide +kernel) (Nat.le_of_ble_eq_true rfl) (fun X hX C hr => ?_)
  unfold f_X12_readsMarket at hf
  show ZZ X Γ 3 _ S 0 [(0, aR 20), (1, aI p1)] []
  refine z_aload_n (j := 0) C d_X12_readsMarket_0 rfl ?_
  refine zg_X12_readThings C rfl tw_1235 d_X12_readsMarket_1 ?_
  refine z_if_le (tgt := 14) C d_X12_readsMarket_4 (by decide) hf (fun c4 hf => ?_) (fun c4 hf => ?_)
  · refine z_aload_n (j := 0) C d_X12_readsMarket_14 rfl ?_
    obtain ⟨q15, hF, hf⟩ := bd hf
    refine z_callV0 (rest := []) C [] rfl (by decide) rfl rfl k_X12_passWord tw_1423 ⟨by decide, by decide⟩ (Nat.le_of_ble_eq_true rfl) d_X12_readsMarket_15 (c_X12_passWord C.inj hF) rfl ?_
    refine z_aload_n (j := 0) C d_X12_readsMarket_18 rfl ?_
    refine z_iconst (v := 2) C d_X12_readsMarket_19 (by decide) ?_
    refine z_iconst (v := 5) C d_X12_readsMarket_20 (by decide) ?_
    obtain ⟨q21, hF, hf⟩ := bd hf
    refine z_callV1 (rest := []) C [aI 2, aI 5] rfl (by decide) rfl rfl k_X12_reads tw_1427 ⟨by decide, by decide⟩ (Nat.le_of_ble_eq_true rfl) d_X12_readsMarket_21 (c_X12_reads C.inj hF) rfl ?_
    refine z_if_ne (tgt := 29) C d_X12_readsMarket_24 (by decide) hf (fun c24 hf => ?_) (fun c24 hf => ?_)
    · refine z_aload_n (j := 0) C d_X12_readsMarket_29 rfl ?_
      refine zg_X12_number C rfl tw_1222 d_X12_readsMarket_30 ?_
      refine z_istore_n (lv' := [(2, aI (gI q21.2 20 11)), (0, aR 20), (1, aI p1)]) C d_X12_readsMarket_33 (by decide) rfl ?_
      exact z_sub [1, 0] rfl (t_X12_readsMarket_34 C hr  _ _ hf)
    · refine z_iconst (v := 0) C d_X12_readsMarket_27 (by decide) ?_
      exact r_i C hr (by decide) d_X12_readsMarket_28 hf
  · refine z_aload_n (j := 0) C d_X12_readsMarket_7 rfl ?_
    refine z_iconst (v := 2) C d_X12_readsMarket_8 (by decide) ?_
    refine z_iload_n (j := 1) C d_X12_readsMarket_9 rfl ?_
    obtain ⟨q10, hF, hf⟩ := bd hf
    refine z_callV1 (rest := []) C [aI 2, aI p1] rfl (by decide) rfl rfl k_X12_fails tw_1415 ⟨by decide, by decide⟩ (Nat.le_of_ble_eq_true rfl) d_X12_readsMarket_10 (c_X12_fails C.inj hF) rfl ?_
    obtain ⟨hb13_1, hf⟩ := gd hf
    exact r_i C hr (isB_nar hb13_1).1 d_X12_readsMarket_13 hf
theorem d_X12_readsPool_0 : decode cX12_readsPool 0 = .ok (.aload_n 0, 1) := by decide +kernel
theorem d_X12_readsPool_1 : decode cX12_readsPool 1 = .ok (.getfield 184, 3) := by decide +kernel
theorem d_X12_readsPool_4 : decode cX12_readsPool 4 = .ok (.iconst 5, 1) := by decide +kernel
theorem d_X12_readsPool_5 : decode cX12_readsPool 5 = .ok (.if_icmp .ne 10, 3) := by decide +kernel
theorem d_X12_readsPool_8 : decode cX12_readsPool 8 = .ok (.aload_n 0, 1) := by decide +kernel
theorem d_X12_readsPool_9 : decode cX12_readsPool 9 = .ok (.iconst 2, 1) := by decide +kernel
theorem d_X12_readsPool_10 : decode cX12_readsPool 10 = .ok (.iload_n 1, 1) := by decide +kernel
theorem d_X12_readsPool_11 : decode cX12_readsPool 11 = .ok (.invokevirtual 165, 3) := by decide +kernel
theorem d_X12_readsPool_14 : decode cX12_readsPool 14 = .ok (.ireturn, 1) := by decide +kernel
theorem d_X12_readsPool_15 : decode cX12_readsPool 15 = .ok (.aload_n 0, 1) := by decide +kernel
theorem d_X12_readsPool_16 : decode cX12_readsPool 16 = .ok (.invokevirtual 175, 3) := by decide +kernel
theorem d_X12_readsPool_19 : decode cX12_readsPool 19 = .ok (.iconst 0, 1) := by decide +kernel
theorem d_X12_readsPool_20 : decode cX12_readsPool 20 = .ok (.istore_n 2, 1) := by decide +kernel
theorem d_X12_readsPool_21 : decode cX12_readsPool 21 = .ok (.iload_n 2, 1) := by decide +kernel
theorem d_X12_readsPool_22 : decode cX12_readsPool 22 = .ok (.bipush 7, 2) := by decide +kernel
theorem d_X12_readsPool_24 : decode cX12_readsPool 24 = .ok (.if_icmp .ge 142, 3) := by decide +kernel
theorem d_X12_readsPool_27 : decode cX12_readsPool 27 = .ok (.iload_n 2, 1) := by decide +kernel
theorem d_X12_readsPool_28 : decode cX12_readsPool 28 = .ok (.iconst 4, 1) := by decide +kernel
theorem d_X12_readsPool_29 : decode cX12_readsPool 29 = .ok (.if_icmp .lt 7, 3) := by decide +kernel
theorem d_X12_readsPool_32 : decode cX12_readsPool 32 = .ok (.iconst 1, 1) := by decide +kernel
theorem d_X12_readsPool_33 : decode cX12_readsPool 33 = .ok (.goto 4, 3) := by decide +kernel
theorem d_X12_readsPool_36 : decode cX12_readsPool 36 = .ok (.iconst 0, 1) := by decide +kernel
theorem d_X12_readsPool_37 : decode cX12_readsPool 37 = .ok (.istore_n 3, 1) := by decide +kernel
theorem d_X12_readsPool_38 : decode cX12_readsPool 38 = .ok (.iload_n 2, 1) := by decide +kernel
theorem d_X12_readsPool_39 : decode cX12_readsPool 39 = .ok (.iconst 2, 1) := by decide +kernel
theorem d_X12_readsPool_40 : decode cX12_readsPool 40 = .ok (.if_icmp .ge 12, 3) := by decide +kernel
theorem d_X12_readsPool_43 : decode cX12_readsPool 43 = .ok (.aload_n 0, 1) := by decide +kernel
theorem d_X12_readsPool_44 : decode cX12_readsPool 44 = .ok (.getfield 172, 3) := by decide +kernel
theorem d_X12_readsPool_47 : decode cX12_readsPool 47 = .ok (.iconst 1, 1) := by decide +kernel
theorem d_X12_readsPool_48 : decode cX12_readsPool 48 = .ok (.isub, 1) := by decide +kernel
theorem d_X12_readsPool_49 : decode cX12_readsPool 49 = .ok (.goto 36, 3) := by decide +kernel
theorem d_X12_readsPool_52 : decode cX12_readsPool 52 = .ok (.iload_n 2, 1) := by decide +kernel
theorem d_X12_readsPool_53 : decode cX12_readsPool 53 = .ok (.iconst 2, 1) := by decide +kernel
theorem d_X12_readsPool_54 : decode cX12_readsPool 54 = .ok (.if_icmp .ne 8, 3) := by decide +kernel
theorem d_X12_readsPool_57 : decode cX12_readsPool 57 = .ok (.bipush 99, 2) := by decide +kernel
theorem d_X12_readsPool_59 : decode cX12_readsPool 59 = .ok (.goto 26, 3) := by decide +kernel
theorem d_X12_readsPool_62 : decode cX12_readsPool 62 = .ok (.iload_n 2, 1) := by decide +kernel
theorem d_X12_readsPool_63 : decode cX12_readsPool 63 = .ok (.iconst 3, 1) := by decide +kernel
theorem d_X12_readsPool_64 : decode cX12_readsPool 64 = .ok (.if_icmp .ne 8, 3) := by decide +kernel
theorem d_X12_readsPool_67 : decode cX12_readsPool 67 = .ok (.bipush 100, 2) := by decide +kernel
theorem d_X12_readsPool_69 : decode cX12_readsPool 69 = .ok (.goto 16, 3) := by decide +kernel
theorem d_X12_readsPool_72 : decode cX12_readsPool 72 = .ok (.iload_n 2, 1) := by decide +kernel
theorem d_X12_readsPool_73 : decode cX12_readsPool 73 = .ok (.iconst 4, 1) := by decide +kernel
theorem d_X12_readsPool_74 : decode cX12_readsPool 74 = .ok (.if_icmp .ne 8, 3) := by decide +kernel
theorem d_X12_readsPool_77 : decode cX12_readsPool 77 = .ok (.bipush 10, 2) := by decide +kernel
theorem d_X12_readsPool_79 : decode cX12_readsPool 79 = .ok (.goto 6, 3) := by decide +kernel
theorem d_X12_readsPool_82 : decode cX12_readsPool 82 = .ok (.sipush 9999, 3) := by decide +kernel
theorem d_X12_readsPool_85 : decode cX12_readsPool 85 = .ok (.istore 4, 2) := by decide +kernel
theorem d_X12_readsPool_87 : decode cX12_readsPool 87 = .ok (.aload_n 0, 1) := by decide +kernel
theorem d_X12_readsPool_88 : decode cX12_readsPool 88 = .ok (.invokevirtual 151, 3) := by decide +kernel
theorem d_X12_readsPool_91 : decode cX12_readsPool 91 = .ok (.pop, 1) := by decide +kernel
theorem d_X12_readsPool_92 : decode cX12_readsPool 92 = .ok (.aload_n 0, 1) := by decide +kernel
theorem d_X12_readsPool_93 : decode cX12_readsPool 93 = .ok (.getfield 144, 3) := by decide +kernel
theorem d_X12_readsPool_96 : decode cX12_readsPool 96 = .ok (.istore 5, 2) := by decide +kernel
theorem d_X12_readsPool_98 : decode cX12_readsPool 98 = .ok (.aload_n 0, 1) := by decide +kernel
theorem d_X12_readsPool_99 : decode cX12_readsPool 99 = .ok (.iload_n 3, 1) := by decide +kernel
theorem d_X12_readsPool_100 : decode cX12_readsPool 100 = .ok (.iload 4, 2) := by decide +kernel
theorem d_X12_readsPool_102 : decode cX12_readsPool 102 = .ok (.invokevirtual 178, 3) := by decide +kernel
theorem d_X12_readsPool_105 : decode cX12_readsPool 105 = .ok (.ifCond .ne 5, 3) := by decide +kernel
theorem d_X12_readsPool_108 : decode cX12_readsPool 108 = .ok (.iconst 0, 1) := by decide +kernel
theorem d_X12_readsPool_109 : decode cX12_readsPool 109 = .ok (.ireturn, 1) := by decide +kernel
theorem d_X12_readsPool_110 : decode cX12_readsPool 110 = .ok (.iload_n 2, 1) := by decide +kernel
theorem d_X12_readsPool_111 : decode cX12_readsPool 111 = .ok (.iconst 1, 1) := by decide +kernel
theorem d_X12_readsPool_112 : decode cX12_readsPool 112 = .ok (.if_icmp .ne 30, 3) := by decide +kernel
theorem d_X12_readsPool_115 : decode cX12_readsPool 115 = .ok (.aload_n 0, 1) := by decide +kernel
theorem d_X12_readsPool_116 : decode cX12_readsPool 116 = .ok (.getfield 169, 3) := by decide +kernel
theorem d_X12_readsPool_119 : decode cX12_readsPool 119 = .ok (.aload_n 0, 1) := by decide +kernel
theorem d_X12_readsPool_120 : decode cX12_readsPool 120 = .ok (.getfield 68, 3) := by decide +kernel
theorem d_X12_readsPool_123 : decode cX12_readsPool 123 = .ok (.bipush 7, 2) := by decide +kernel
theorem d_X12_readsPool_125 : decode cX12_readsPool 125 = .ok (.aload_n 0, 1) := by decide +kernel
theorem d_X12_readsPool_126 : decode cX12_readsPool 126 = .ok (.getfield 184, 3) := by decide +kernel
theorem d_X12_readsPool_129 : decode cX12_readsPool 129 = .ok (.imul, 1) := by decide +kernel
theorem d_X12_readsPool_130 : decode cX12_readsPool 130 = .ok (.iaload, 1) := by decide +kernel
theorem d_X12_readsPool_131 : decode cX12_readsPool 131 = .ok (.if_icmp .ne 11, 3) := by decide +kernel
theorem d_X12_readsPool_134 : decode cX12_readsPool 134 = .ok (.aload_n 0, 1) := by decide +kernel
theorem d_X12_readsPool_135 : decode cX12_readsPool 135 = .ok (.iconst 1, 1) := by decide +kernel
theorem d_X12_readsPool_136 : decode cX12_readsPool 136 = .ok (.iload 5, 2) := by decide +kernel
theorem d_X12_readsPool_138 : decode cX12_readsPool 138 = .ok (.invokevirtual 165, 3) := by decide +kernel
theorem d_X12_readsPool_141 : decode cX12_readsPool 141 = .ok (.ireturn, 1) := by decide +kernel
theorem d_X12_readsPool_142 : decode cX12_readsPool 142 = .ok (.aload_n 0, 1) := by decide +kernel
theorem d_X12_readsPool_143 : decode cX12_readsPool 143 = .ok (.getfield 68, 3) := by decide +kernel
theorem d_X12_readsPool_146 : decode cX12_readsPool 146 = .ok (.bipush 7, 2) := by decide +kernel
theorem d_X12_readsPool_148 : decode cX12_readsPool 148 = .ok (.aload_n 0, 1) := by decide +kernel
theorem d_X12_readsPool_149 : decode cX12_readsPool 149 = .ok (.getfield 184, 3) := by decide +kernel
theorem d_X12_readsPool_152 : decode cX12_readsPool 152 = .ok (.imul, 1) := by decide +kernel
theorem d_X12_readsPool_153 : decode cX12_readsPool 153 = .ok (.iload_n 2, 1) := by decide +kernel
theorem d_X12_readsPool_154 : decode cX12_readsPool 154 = .ok (.iadd, 1) := by decide +kernel
theorem d_X12_readsPool_155 : decode cX12_readsPool 155 = .ok (.aload_n 0, 1) := by decide +kernel
theorem d_X12_readsPool_156 : decode cX12_readsPool 156 = .ok (.getfield 169, 3) := by decide +kernel
theorem d_X12_readsPool_159 : decode cX12_readsPool 159 = .ok (.iastore, 1) := by decide +kernel
theorem d_X12_readsPool_160 : decode cX12_readsPool 160 = .ok (.iinc 2 1, 3) := by decide +kernel
theorem d_X12_readsPool_163 : decode cX12_readsPool 163 = .ok (.goto (-142), 3) := by decide +kernel
theorem d_X12_readsPool_166 : decode cX12_readsPool 166 = .ok (.aload_n 0, 1) := by decide +kernel
theorem d_X12_readsPool_167 : decode cX12_readsPool 167 = .ok (.dup, 1) := by decide +kernel
theorem d_X12_readsPool_168 : decode cX12_readsPool 168 = .ok (.getfield 184, 3) := by decide +kernel
theorem d_X12_readsPool_171 : decode cX12_readsPool 171 = .ok (.iconst 1, 1) := by decide +kernel
theorem d_X12_readsPool_172 : decode cX12_readsPool 172 = .ok (.iadd, 1) := by decide +kernel
theorem d_X12_readsPool_173 : decode cX12_readsPool 173 = .ok (.putfield 184, 3) := by decide +kernel
theorem d_X12_readsPool_176 : decode cX12_readsPool 176 = .ok (.iconst 1, 1) := by decide +kernel
theorem d_X12_readsPool_177 : decode cX12_readsPool 177 = .ok (.ireturn, 1) := by decide +kernel
def f_X12_readsPool_142 (k21 : Int32 → Mem → Option (Int32 × Mem)) (v2 : Int32) (S : Mem) : Option (Int32 × Mem) := (if inb ((7 * (gI S 20 26)) + v2) 35 = true then (k21 (v2 + 1) (sI S 26 ((((7 * (gI S 20 26)) + v2) : Int32).toNatClampNeg) (gI S 20 11))) else none)
set_option maxRecDepth 20000 in
theorem t_X12_readsPool_142 {X : MC} {Γ : GG} (C : CX X Γ cX12_readsPool 6 "TickPoolsModel" 3 64) (hr : X.2.2.2.2.2.2.2.2.1.sig.returnType = some .boolean) {k21 : Int32 → Mem → Option (Int32 × Mem)} {q : Int32 × Mem} (hk21 : ∀ (v2 : Int32) (S : Mem), k21 v2 S = some q → ZZ X Γ 6 (QQ X Γ (some (aI q.1)) q.2) S 21 [(0, aR 20), (2, aI v2)] []) (v2 : Int32) (S : Mem) (hf : f_X12_readsPool_142 k21 v2 S = some q) : ZZ X Γ 6 (QQ X Γ (some (aI q.1)) q.2) S 142 [(0, aR 20), (2, aI v2)] [] := by
  unfold f_X12_readsPool_142 at hf
  refine z_aload_n (j := 0) C d_X12_readsPool_142 rfl ?_
  refine zg_X12_readPool C rfl tw_1238 d_X12_readsPool_143 ?_
  refine z_bipush (v := 7) C d_X12_readsPool_146 (by decide) ?_
  refine z_aload_n (j := 0) C d_X12_readsPool_148 rfl ?_
  refine zg_X12_readPools C rfl tw_1237 d_X12_readsPool_149 ?_
  refine z_imul C d_X12_readsPool_152 ?_
  refine z_iload_n (j := 1) C d_X12_readsPool_153 rfl ?_
  refine z_iadd C d_X12_readsPool_154 ?_
  refine z_aload_n (j := 0) C d_X12_readsPool_155 rfl ?_
  refine zg_X12_number C rfl tw_1222 d_X12_readsPool_156 ?_
  obtain ⟨hi159_0, hf⟩ := gd hf
  refine z_iast C rfl hi159_0 d_X12_readsPool_159 ?_
  refine z_iinc (j := 1) (v := (v2 + 1)) (lv' := [(2, aI (v2 + 1)), (0, aR 20)]) C d_X12_readsPool_160 rfl rfl (by decide) rfl ?_
  refine z_goto (tgt := 21) C d_X12_readsPool_163 (by decide) ?_
  exact z_sub [1, 0] rfl (hk21 _ _ hf)
def f_X12_readsPool_98 (k21 : Int32 → Mem → Option (Int32 × Mem)) (v2 : Int32) (v3 : Int32) (v4 : Int32) (v5 : Int32) (S : Mem) : Option (Int32 × Mem) := ((f_X12_reads v3 v4 S).bind fun q102 => (if q102.1 = 0 then (some (0, q102.2)) else (if v2 = 1 then (if inb (7 * (gI q102.2 20 26)) 35 = true then (if (gI q102.2 20 11) = (gI q102.2 26 (((7 * (gI q102.2 20 26)) : Int32).toNatClampNeg)) then ((f_X12_fails 1 v5 q102.2).bind fun q138 => (if isB q138.1 = true then (some (q138.1, q138.2)) else none)) else (f_X12_readsPool_142 k21 v2 q102.2)) else none) else (f_X12_readsPool_142 k21 v2 q102.2))))
set_option maxRecDepth 20000 in
theorem t_X12_readsPool_98 {X : MC} {Γ : GG} (C : CX X Γ cX12_readsPool 6 "TickPoolsModel" 3 64) (hr : X.2.2.2.2.2.2.2.2.1.sig.returnType = some .boolean) {k21 : Int32 → Mem → Option (Int32 × Mem)} {q : Int32 × Mem} (hk21 : ∀ (v2 : Int32) (S : Mem), k21 v2 S = some q → ZZ X Γ 6 (QQ X Γ (some (aI q.1)) q.2) S 21 [(0, aR 20), (2, aI v2)] []) (v2 : Int32) (v3 : Int32) (v4 : Int32) (v5 : Int32) (S : Mem) (hf : f_X12_readsPool_98 k21 v2 v3 v4 v5 S = some q) : ZZ X Γ 6 (QQ X Γ (some (aI q.1)) q.2) S 98 [(0, aR 20), (2, aI v2), (3, aI v3), (4, aI v4), (5, aI v5)] [] := by
  unfold f_X12_readsPool_98 at hf
  refine z_aload_n (j := 0) C d_X12_readsPool_98 rfl ?_
  refine z_iload_n (j := 2) C d_X12_readsPool_99 rfl ?_
  refine z_iload (j := 3) C d_X12_readsPool_100 rfl ?_
  obtain ⟨q102, hF, hf⟩ := bd hf
  refine z_callV1 (rest := []) C [aI v3, aI v4] rfl (by decide) rfl rfl k_X12_reads tw_1427 ⟨by decide, by decide⟩ (Nat.le_of_ble_eq_true rfl) d_X12_readsPool_102 (c_X12_reads C.inj hF) rfl ?_
  refine z_if_ne (tgt := 110) C d_X12_readsPool_105 (by decide) hf (fun c105 hf => ?_) (fun c105 hf => ?_)
  · refine z_iload_n (j := 1) C d_X12_readsPool_110 rfl ?_
    refine z_iconst (v := 1) C d_X12_readsPool_111 (by decide) ?_
    refine z_icmp_ne (tgt := 142) C d_X12_readsPool_112 (by decide) hf (fun c112 hf => ?_) (fun c112 hf => ?_)
    · exact z_sub [0, 1] rfl (t_X12_readsPool_142 C hr hk21 _ _ hf)
    · refine z_aload_n (j := 0) C d_X12_readsPool_115 rfl ?_
      refine zg_X12_number C rfl tw_1222 d_X12_readsPool_116 ?_
      refine z_aload_n (j := 0) C d_X12_readsPool_119 rfl ?_
      refine zg_X12_readPool C rfl tw_1238 d_X12_readsPool_120 ?_
      refine z_bipush (v := 7) C d_X12_readsPool_123 (by decide) ?_
      refine z_aload_n (j := 0) C d_X12_readsPool_125 rfl ?_
      refine zg_X12_readPools C rfl tw_1237 d_X12_readsPool_126 ?_
      refine z_imul C d_X12_readsPool_129 ?_
      obtain ⟨hi130_0, hf⟩ := gd hf
      refine z_iald C rfl hi130_0 d_X12_readsPool_130 ?_
      refine z_icmp_ne (tgt := 142) C d_X12_readsPool_131 (by decide) hf (fun c131 hf => ?_) (fun c131 hf => ?_)
      · exact z_sub [0, 1] rfl (t_X12_readsPool_142 C hr hk21 _ _ hf)
      · refine z_aload_n (j := 0) C d_X12_readsPool_134 rfl ?_
        refine z_iconst (v := 1) C d_X12_readsPool_135 (by decide) ?_
        refine z_iload (j := 4) C d_X12_readsPool_136 rfl ?_
        obtain ⟨q138, hF, hf⟩ := bd hf
        refine z_callV1 (rest := []) C [aI 1, aI v5] rfl (by decide) rfl rfl k_X12_fails tw_1415 ⟨by decide, by decide⟩ (Nat.le_of_ble_eq_true rfl) d_X12_readsPool_138 (c_X12_fails C.inj hF) rfl ?_
        obtain ⟨hb141_1, hf⟩ := gd hf
        exact r_i C hr (isB_nar hb141_1).1 d_X12_readsPool_141 hf
  · refine z_iconst (v := 0) C d_X12_readsPool_108 (by decide) ?_
    exact r_i C hr (by decide) d_X12_readsPool_109 hf
def f_X12_readsPool_85 (k21 : Int32 → Mem → Option (Int32 × Mem)) (v2 : Int32) (v3 : Int32) (s0 : Int32) (S : Mem) : Option (Int32 × Mem) := ((f_X12_next S).bind fun q88 => (f_X12_readsPool_98 k21 v2 v3 s0 (gI q88.2 20 9) q88.2))
set_option maxRecDepth 20000 in
theorem t_X12_readsPool_85 {X : MC} {Γ : GG} (C : CX X Γ cX12_readsPool 6 "TickPoolsModel" 3 64) (hr : X.2.2.2.2.2.2.2.2.1.sig.returnType = some .boolean) {k21 : Int32 → Mem → Option (Int32 × Mem)} {q : Int32 × Mem} (hk21 : ∀ (v2 : Int32) (S : Mem), k21 v2 S = some q → ZZ X Γ 6 (QQ X Γ (some (aI q.1)) q.2) S 21 [(0, aR 20), (2, aI v2)] []) (v2 : Int32) (v3 : Int32) (s0 : Int32) (S : Mem) (hf : f_X12_readsPool_85 k21 v2 v3 s0 S = some q) : ZZ X Γ 6 (QQ X Γ (some (aI q.1)) q.2) S 85 [(0, aR 20), (2, aI v2), (3, aI v3)] [aI s0] := by
  unfold f_X12_readsPool_85 at hf
  refine z_istore (lv' := [(4, aI s0), (0, aR 20), (2, aI v2), (3, aI v3)]) C d_X12_readsPool_85 (by decide) rfl ?_
  refine z_aload_n (j := 1) C d_X12_readsPool_87 rfl ?_
  obtain ⟨q88, hF, hf⟩ := bd hf
  refine z_callV1 (rest := []) C [] rfl (by decide) rfl rfl k_X12_next tw_1404 ⟨by decide, by decide⟩ (Nat.le_of_ble_eq_true rfl) d_X12_readsPool_88 (c_X12_next C.inj hF) rfl ?_
  refine z_pop C d_X12_readsPool_91 rfl ?_
  refine z_aload_n (j := 1) C d_X12_readsPool_92 rfl ?_
  refine zg_X12_at C rfl tw_1220 d_X12_readsPool_93 ?_
  refine z_istore (lv' := [(5, aI (gI q88.2 20 9)), (4, aI s0), (0, aR 20), (2, aI v2), (3, aI v3)]) C d_X12_readsPool_96 (by decide) rfl ?_
  exact z_sub [2, 3, 4, 1, 0] rfl (t_X12_readsPool_98 C hr hk21 _ _ _ _ _ hf)
def f_X12_readsPool_37 (k21 : Int32 → Mem → Option (Int32 × Mem)) (v2 : Int32) (s0 : Int32) (S : Mem) : Option (Int32 × Mem) := (if 2 ≤ v2 then (if v2 = 2 then (f_X12_readsPool_85 k21 v2 s0 99 S) else (if v2 = 3 then (f_X12_readsPool_85 k21 v2 s0 100 S) else (if v2 = 4 then (f_X12_readsPool_85 k21 v2 s0 10 S) else (f_X12_readsPool_85 k21 v2 s0 9999 S)))) else (f_X12_readsPool_85 k21 v2 s0 ((gI S 20 24) - 1) S))
set_option maxRecDepth 20000 in
theorem t_X12_readsPool_37 {X : MC} {Γ : GG} (C : CX X Γ cX12_readsPool 6 "TickPoolsModel" 3 64) (hr : X.2.2.2.2.2.2.2.2.1.sig.returnType = some .boolean) {k21 : Int32 → Mem → Option (Int32 × Mem)} {q : Int32 × Mem} (hk21 : ∀ (v2 : Int32) (S : Mem), k21 v2 S = some q → ZZ X Γ 6 (QQ X Γ (some (aI q.1)) q.2) S 21 [(0, aR 20), (2, aI v2)] []) (v2 : Int32) (s0 : Int32) (S : Mem) (hf : f_X12_readsPool_37 k21 v2 s0 S = some q) : ZZ X Γ 6 (QQ X Γ (some (aI q.1)) q.2) S 37 [(0, aR 20), (2, aI v2)] [aI s0] := by
  unfold f_X12_readsPool_37 at hf
  refine z_istore_n (lv' := [(3, aI s0), (0, aR 20), (2, aI v2)]) C d_X12_readsPool_37 (by decide) rfl ?_
  refine z_iload_n (j := 2) C d_X12_readsPool_38 rfl ?_
  refine z_iconst (v := 2) C d_X12_readsPool_39 (by decide) ?_
  refine z_icmp_ge (tgt := 52) C d_X12_readsPool_40 (by decide) hf (fun c40 hf => ?_) (fun c40 hf => ?_)
  · refine z_iload_n (j := 2) C d_X12_readsPool_52 rfl ?_
    refine z_iconst (v := 2) C d_X12_readsPool_53 (by decide) ?_
    refine z_icmp_ne (tgt := 62) C d_X12_readsPool_54 (by decide) hf (fun c54 hf => ?_) (fun c54 hf => ?_)
    · refine z_iload_n (j := 2) C d_X12_readsPool_62 rfl ?_
      refine z_iconst (v := 3) C d_X12_readsPool_63 (by decide) ?_
      refine z_icmp_ne (tgt := 72) C d_X12_readsPool_64 (by decide) hf (fun c64 hf => ?_) (fun c64 hf => ?_)
      · refine z_iload_n (j := 2) C d_X12_readsPool_72 rfl ?_
        refine z_iconst (v := 4) C d_X12_readsPool_73 (by decide) ?_
        refine z_icmp_ne (tgt := 82) C d_X12_readsPool_74 (by decide) hf (fun c74 hf => ?_) (fun c74 hf => ?_)
        · refine z_sipush (v := 9999) C d_X12_readsPool_82 (by decide) ?_
          exact z_sub [1, 2, 0] rfl (t_X12_readsPool_85 C hr hk21 _ _ _ _ hf)
        · refine z_bipush (v := 10) C d_X12_readsPool_77 (by decide) ?_
          refine z_goto (tgt := 85) C d_X12_readsPool_79 (by decide) ?_
          exact z_sub [1, 2, 0] rfl (t_X12_readsPool_85 C hr hk21 _ _ _ _ hf)
      · refine z_bipush (v := 100) C d_X12_readsPool_67 (by decide) ?_
        refine z_goto (tgt := 85) C d_X12_readsPool_69 (by decide) ?_
        exact z_sub [1, 2, 0] rfl (t_X12_readsPool_85 C hr hk21 _ _ _ _ hf)
    · refine z_bipush (v := 99) C d_X12_readsPool_57 (by decide) ?_
      refine z_goto (tgt := 85) C d_X12_readsPool_59 (by decide) ?_
      exact z_sub [1, 2, 0] rfl (t_X12_readsPool_85 C hr hk21 _ _ _ _ hf)
  · refine z_aload_n (j := 1) C d_X12_readsPool_43 rfl ?_
    refine zg_X12_readThings C rfl tw_1235 d_X12_readsPool_44 ?_
    refine z_iconst (v := 1) C d_X12_readsPool_47 (by decide) ?_
    refine z_isub C d_X12_readsPool_48 ?_
    refine z_goto (tgt := 85) C d_X12_readsPool_49 (by decide) ?_
    exact z_sub [1, 2, 0] rfl (t_X12_readsPool_85 C hr hk21 _ _ _ _ hf)
def f_X12_readsPool_21B (k21 : Int32 → Mem → Option (Int32 × Mem)) (v2 : Int32) (S : Mem) : Option (Int32 × Mem) := (if 7 ≤ v2 then (some (1, (sI S 20 26 ((gI S 20 26) + 1)))) else (if v2 < 4 then (f_X12_readsPool_37 k21 v2 0 S) else (f_X12_readsPool_37 k21 v2 1 S)))
set_option maxRecDepth 20000 in
theorem t_X12_readsPool_21B {X : MC} {Γ : GG} (C : CX X Γ cX12_readsPool 6 "TickPoolsModel" 3 64) (hr : X.2.2.2.2.2.2.2.2.1.sig.returnType = some .boolean) {k21 : Int32 → Mem → Option (Int32 × Mem)} {q : Int32 × Mem} (hk21 : ∀ (v2 : Int32) (S : Mem), k21 v2 S = some q → ZZ X Γ 6 (QQ X Γ (some (aI q.1)) q.2) S 21 [(0, aR 20), (2, aI v2)] []) (v2 : Int32) (S : Mem) (hf : f_X12_readsPool_21B k21 v2 S = some q) : ZZ X Γ 6 (QQ X Γ (some (aI q.1)) q.2) S 21 [(0, aR 20), (2, aI v2)] [] := by
  unfold f_X12_readsPool_21B at hf
  refine z_iload_n (j := 1) C d_X12_readsPool_21 rfl ?_
  refine z_bipush (v := 7) C d_X12_readsPool_22 (by decide) ?_
  refine z_icmp_ge (tgt := 166) C d_X12_readsPool_24 (by decide) hf (fun c24 hf => ?_) (fun c24 hf => ?_)
  · refine z_aload_n (j := 0) C d_X12_readsPool_166 rfl ?_
    refine z_dup C d_X12_readsPool_167 rfl ?_
    refine zg_X12_readPools C rfl tw_1237 d_X12_readsPool_168 ?_
    refine z_iconst (v := 1) C d_X12_readsPool_171 (by decide) ?_
    refine z_iadd C d_X12_readsPool_172 ?_
    refine zp_X12_readPools C rfl tw_1237 d_X12_readsPool_173 ?_
    refine z_iconst (v := 1) C d_X12_readsPool_176 (by decide) ?_
    exact r_i C hr (by decide) d_X12_readsPool_177 hf
  · refine z_iload_n (j := 1) C d_X12_readsPool_27 rfl ?_
    refine z_iconst (v := 4) C d_X12_readsPool_28 (by decide) ?_
    refine z_icmp_lt (tgt := 36) C d_X12_readsPool_29 (by decide) hf (fun c29 hf => ?_) (fun c29 hf => ?_)
    · refine z_iconst (v := 0) C d_X12_readsPool_36 (by decide) ?_
      exact z_sub [0, 1] rfl (t_X12_readsPool_37 C hr hk21 _ _ _ hf)
    · refine z_iconst (v := 1) C d_X12_readsPool_32 (by decide) ?_
      refine z_goto (tgt := 37) C d_X12_readsPool_33 (by decide) ?_
      exact z_sub [0, 1] rfl (t_X12_readsPool_37 C hr hk21 _ _ _ hf)
def f_X12_readsPool_21 : Nat → Int32 → Mem → Option (Int32 × Mem)
  | 0 => fun _ _ => none
  | n + 1 => f_X12_readsPool_21B (f_X12_readsPool_21 n)
theorem t_X12_readsPool_21 {X : MC} {Γ : GG} (C : CX X Γ cX12_readsPool 6 "TickPoolsModel" 3 64) (hr : X.2.2.2.2.2.2.2.2.1.sig.returnType = some .boolean) {q : Int32 × Mem} : ∀ (n : Nat) (v2 : Int32) (S : Mem) (hf : f_X12_readsPool_21 n v2 S = some q), ZZ X Γ 6 (QQ X Γ (some (aI q.1)) q.2) S 21 [(0, aR 20), (2, aI v2)] []
  | 0, _, _, hf => nomatch (show (none : Option (Int32 × Mem)) = some q from hf)
  | n + 1, v2, S, hf => t_X12_readsPool_21B C hr (t_X12_readsPool_21 C hr n) v2 S hf
/-- TickPoolsModel.readsPool(I)Z -/
def f_X12_readsPool (p1 : Int32) (S : Mem) : Option (Int32 × Mem) := (if (gI S 20 26) = 5 then ((f_X12_fails 2 p1 S).bind fun q11 => (if isB q11.1 = true then (some (q11.1, q11.2)) else none)) else ((f_X12_passWord S).bind fun q16 => (f_X12_readsPool_21  100000 0 q16.2)))
set_option maxRecDepth 20000 in
theorem c_X12_readsPool {l : Launch} {Γ : GG} (hI : Inj Γ) {p1 : Int32} {S : Mem} {q : Int32 × Mem} (hf : f_X12_readsPool p1 S = some q) : MM l Γ yX12_readsPool cX12_readsPool 6 (some .boolean) 3 64 [aR 20, aI p1] S (some (aI q.1)) q.2 := by
  refine met_of hI "TickPoolsModel" rfl (by decide +kernel) (Nat.le_of_ble_eq_true rfl) (fun X hX C hr => ?_)
  unfold f_X12_readsPool at hf
  show ZZ X Γ 6 _ S 0 [(0, aR 20), (1, aI p1)] []
  refine z_aload_n (j := 0) C d_X12_readsPool_0 rfl ?_
  refine zg_X12_readPools C rfl tw_1237 d_X12_readsPool_1 ?_
  refine z_iconst (v := 5) C d_X12_readsPool_4 (by decide) ?_
  refine z_icmp_ne (tgt := 15) C d_X12_readsPool_5 (by decide) hf (fun c5 hf => ?_) (fun c5 hf => ?_)
  · refine z_aload_n (j := 0) C d_X12_readsPool_15 rfl ?_
    obtain ⟨q16, hF, hf⟩ := bd hf
    refine z_callV0 (rest := []) C [] rfl (by decide) rfl rfl k_X12_passWord tw_1423 ⟨by decide, by decide⟩ (Nat.le_of_ble_eq_true rfl) d_X12_readsPool_16 (c_X12_passWord C.inj hF) rfl ?_
    refine z_iconst (v := 0) C d_X12_readsPool_19 (by decide) ?_
    refine z_istore_n (lv' := [(2, aI 0), (0, aR 20), (1, aI p1)]) C d_X12_readsPool_20 (by decide) rfl ?_
    exact z_sub [1, 0] rfl (t_X12_readsPool_21 C hr  100000 _ _ hf)
  · refine z_aload_n (j := 0) C d_X12_readsPool_8 rfl ?_
    refine z_iconst (v := 2) C d_X12_readsPool_9 (by decide) ?_
    refine z_iload_n (j := 1) C d_X12_readsPool_10 rfl ?_
    obtain ⟨q11, hF, hf⟩ := bd hf
    refine z_callV1 (rest := []) C [aI 2, aI p1] rfl (by decide) rfl rfl k_X12_fails tw_1415 ⟨by decide, by decide⟩ (Nat.le_of_ble_eq_true rfl) d_X12_readsPool_11 (c_X12_fails C.inj hF) rfl ?_
    obtain ⟨hb14_1, hf⟩ := gd hf
    exact r_i C hr (isB_nar hb14_1).1 d_X12_readsPool_14 hf
