theorem d_X12_readsPurse_0 : decode cX12_readsPurse 0 = .ok (.aload_n 0, 1) := by decide +kernel
theorem d_X12_readsPurse_1 : decode cX12_readsPurse 1 = .ok (.invokevirtual 175, 3) := by decide +kernel
theorem d_X12_readsPurse_4 : decode cX12_readsPurse 4 = .ok (.aload_n 0, 1) := by decide +kernel
theorem d_X12_readsPurse_5 : decode cX12_readsPurse 5 = .ok (.iconst 0, 1) := by decide +kernel
theorem d_X12_readsPurse_6 : decode cX12_readsPurse 6 = .ok (.aload_n 0, 1) := by decide +kernel
theorem d_X12_readsPurse_7 : decode cX12_readsPurse 7 = .ok (.getfield 181, 3) := by decide +kernel
theorem d_X12_readsPurse_10 : decode cX12_readsPurse 10 = .ok (.iconst 1, 1) := by decide +kernel
theorem d_X12_readsPurse_11 : decode cX12_readsPurse 11 = .ok (.isub, 1) := by decide +kernel
theorem d_X12_readsPurse_12 : decode cX12_readsPurse 12 = .ok (.invokevirtual 178, 3) := by decide +kernel
theorem d_X12_readsPurse_15 : decode cX12_readsPurse 15 = .ok (.ifCond .ne 5, 3) := by decide +kernel
theorem d_X12_readsPurse_18 : decode cX12_readsPurse 18 = .ok (.iconst 0, 1) := by decide +kernel
theorem d_X12_readsPurse_19 : decode cX12_readsPurse 19 = .ok (.ireturn, 1) := by decide +kernel
theorem d_X12_readsPurse_20 : decode cX12_readsPurse 20 = .ok (.aload_n 0, 1) := by decide +kernel
theorem d_X12_readsPurse_21 : decode cX12_readsPurse 21 = .ok (.getfield 169, 3) := by decide +kernel
theorem d_X12_readsPurse_24 : decode cX12_readsPurse 24 = .ok (.istore_n 1, 1) := by decide +kernel
theorem d_X12_readsPurse_25 : decode cX12_readsPurse 25 = .ok (.aload_n 0, 1) := by decide +kernel
theorem d_X12_readsPurse_26 : decode cX12_readsPurse 26 = .ok (.iconst 0, 1) := by decide +kernel
theorem d_X12_readsPurse_27 : decode cX12_readsPurse 27 = .ok (.aload_n 0, 1) := by decide +kernel
theorem d_X12_readsPurse_28 : decode cX12_readsPurse 28 = .ok (.getfield 172, 3) := by decide +kernel
theorem d_X12_readsPurse_31 : decode cX12_readsPurse 31 = .ok (.iconst 1, 1) := by decide +kernel
theorem d_X12_readsPurse_32 : decode cX12_readsPurse 32 = .ok (.isub, 1) := by decide +kernel
theorem d_X12_readsPurse_33 : decode cX12_readsPurse 33 = .ok (.invokevirtual 178, 3) := by decide +kernel
theorem d_X12_readsPurse_36 : decode cX12_readsPurse 36 = .ok (.ifCond .ne 5, 3) := by decide +kernel
theorem d_X12_readsPurse_39 : decode cX12_readsPurse 39 = .ok (.iconst 0, 1) := by decide +kernel
theorem d_X12_readsPurse_40 : decode cX12_readsPurse 40 = .ok (.ireturn, 1) := by decide +kernel
theorem d_X12_readsPurse_41 : decode cX12_readsPurse 41 = .ok (.aload_n 0, 1) := by decide +kernel
theorem d_X12_readsPurse_42 : decode cX12_readsPurse 42 = .ok (.getfield 169, 3) := by decide +kernel
theorem d_X12_readsPurse_45 : decode cX12_readsPurse 45 = .ok (.istore_n 2, 1) := by decide +kernel
theorem d_X12_readsPurse_46 : decode cX12_readsPurse 46 = .ok (.aload_n 0, 1) := by decide +kernel
theorem d_X12_readsPurse_47 : decode cX12_readsPurse 47 = .ok (.iconst 0, 1) := by decide +kernel
theorem d_X12_readsPurse_48 : decode cX12_readsPurse 48 = .ok (.ldc 187, 2) := by decide +kernel
theorem d_X12_readsPurse_50 : decode cX12_readsPurse 50 = .ok (.invokevirtual 178, 3) := by decide +kernel
theorem d_X12_readsPurse_53 : decode cX12_readsPurse 53 = .ok (.ifCond .ne 5, 3) := by decide +kernel
theorem d_X12_readsPurse_56 : decode cX12_readsPurse 56 = .ok (.iconst 0, 1) := by decide +kernel
theorem d_X12_readsPurse_57 : decode cX12_readsPurse 57 = .ok (.ireturn, 1) := by decide +kernel
theorem d_X12_readsPurse_58 : decode cX12_readsPurse 58 = .ok (.aload_n 0, 1) := by decide +kernel
theorem d_X12_readsPurse_59 : decode cX12_readsPurse 59 = .ok (.getfield 71, 3) := by decide +kernel
theorem d_X12_readsPurse_62 : decode cX12_readsPurse 62 = .ok (.iconst 5, 1) := by decide +kernel
theorem d_X12_readsPurse_63 : decode cX12_readsPurse 63 = .ok (.iload_n 1, 1) := by decide +kernel
theorem d_X12_readsPurse_64 : decode cX12_readsPurse 64 = .ok (.imul, 1) := by decide +kernel
theorem d_X12_readsPurse_65 : decode cX12_readsPurse 65 = .ok (.iload_n 2, 1) := by decide +kernel
theorem d_X12_readsPurse_66 : decode cX12_readsPurse 66 = .ok (.iadd, 1) := by decide +kernel
theorem d_X12_readsPurse_67 : decode cX12_readsPurse 67 = .ok (.aload_n 0, 1) := by decide +kernel
theorem d_X12_readsPurse_68 : decode cX12_readsPurse 68 = .ok (.getfield 169, 3) := by decide +kernel
theorem d_X12_readsPurse_71 : decode cX12_readsPurse 71 = .ok (.iastore, 1) := by decide +kernel
theorem d_X12_readsPurse_72 : decode cX12_readsPurse 72 = .ok (.iconst 1, 1) := by decide +kernel
theorem d_X12_readsPurse_73 : decode cX12_readsPurse 73 = .ok (.ireturn, 1) := by decide +kernel
def f_X12_readsPurse_46 (v1 : Int32) (v2 : Int32) (S : Mem) : Option (Int32 × Mem) := ((f_X12_reads 0 9999999 S).bind fun q50 => (if q50.1 = 0 then (some (0, q50.2)) else (if inb ((5 * v1) + v2) 20 = true then (some (1, (sI q50.2 27 ((((5 * v1) + v2) : Int32).toNatClampNeg) (gI q50.2 20 11)))) else none)))
set_option maxRecDepth 20000 in
theorem t_X12_readsPurse_46 {X : MC} {Γ : GG} (C : CX X Γ cX12_readsPurse 3 "TickPoolsModel" 3 64) (hr : X.2.2.2.2.2.2.2.2.1.sig.returnType = some .boolean) {q : Int32 × Mem} (v1 : Int32) (v2 : Int32) (S : Mem) (hf : f_X12_readsPurse_46 v1 v2 S = some q) : ZZ X Γ 3 (QQ X Γ (some (aI q.1)) q.2) S 46 [(0, aR 20), (1, aI v1), (2, aI v2)] [] := by
  unfold f_X12_readsPurse_46 at hf
  refine z_aload_n (j := 0) C d_X12_readsPurse_46 rfl ?_
  refine z_iconst (v := 0) C d_X12_readsPurse_47 (by decide) ?_
  refine z_ldc (v := 9999999) C tw_1442 d_X12_readsPurse_48 ?_
  obtain ⟨q50, hF, hf⟩ := bd hf
  refine z_callV1 (rest := []) C [aI 0, aI 9999999] rfl (by decide) rfl rfl k_X12_reads tw_1427 ⟨by decide, by decide⟩ (Nat.le_of_ble_eq_true rfl) d_X12_readsPurse_50 (c_X12_reads C.inj hF) rfl ?_
  refine z_if_ne (tgt := 58) C d_X12_readsPurse_53 (by decide) hf (fun c53 hf => ?_) (fun c53 hf => ?_)
  · refine z_aload_n (j := 0) C d_X12_readsPurse_58 rfl ?_
    refine zg_X12_readPurse C rfl tw_1239 d_X12_readsPurse_59 ?_
    refine z_iconst (v := 5) C d_X12_readsPurse_62 (by decide) ?_
    refine z_iload_n (j := 1) C d_X12_readsPurse_63 rfl ?_
    refine z_imul C d_X12_readsPurse_64 ?_
    refine z_iload_n (j := 2) C d_X12_readsPurse_65 rfl ?_
    refine z_iadd C d_X12_readsPurse_66 ?_
    refine z_aload_n (j := 0) C d_X12_readsPurse_67 rfl ?_
    refine zg_X12_number C rfl tw_1222 d_X12_readsPurse_68 ?_
    obtain ⟨hi71_0, hf⟩ := gd hf
    refine z_iast C rfl hi71_0 d_X12_readsPurse_71 ?_
    refine z_iconst (v := 1) C d_X12_readsPurse_72 (by decide) ?_
    exact r_i C hr (by decide) d_X12_readsPurse_73 hf
  · refine z_iconst (v := 0) C d_X12_readsPurse_56 (by decide) ?_
    exact r_i C hr (by decide) d_X12_readsPurse_57 hf
def f_X12_readsPurse_25 (v1 : Int32) (S : Mem) : Option (Int32 × Mem) := ((f_X12_reads 0 ((gI S 20 24) - 1) S).bind fun q33 => (if q33.1 = 0 then (some (0, q33.2)) else (f_X12_readsPurse_46  v1 (gI q33.2 20 11) q33.2)))
set_option maxRecDepth 20000 in
theorem t_X12_readsPurse_25 {X : MC} {Γ : GG} (C : CX X Γ cX12_readsPurse 3 "TickPoolsModel" 3 64) (hr : X.2.2.2.2.2.2.2.2.1.sig.returnType = some .boolean) {q : Int32 × Mem} (v1 : Int32) (S : Mem) (hf : f_X12_readsPurse_25 v1 S = some q) : ZZ X Γ 3 (QQ X Γ (some (aI q.1)) q.2) S 25 [(0, aR 20), (1, aI v1)] [] := by
  unfold f_X12_readsPurse_25 at hf
  refine z_aload_n (j := 0) C d_X12_readsPurse_25 rfl ?_
  refine z_iconst (v := 0) C d_X12_readsPurse_26 (by decide) ?_
  refine z_aload_n (j := 0) C d_X12_readsPurse_27 rfl ?_
  refine zg_X12_readThings C rfl tw_1235 d_X12_readsPurse_28 ?_
  refine z_iconst (v := 1) C d_X12_readsPurse_31 (by decide) ?_
  refine z_isub C d_X12_readsPurse_32 ?_
  obtain ⟨q33, hF, hf⟩ := bd hf
  refine z_callV1 (rest := []) C [aI 0, aI ((gI S 20 24) - 1)] rfl (by decide) rfl rfl k_X12_reads tw_1427 ⟨by decide, by decide⟩ (Nat.le_of_ble_eq_true rfl) d_X12_readsPurse_33 (c_X12_reads C.inj hF) rfl ?_
  refine z_if_ne (tgt := 41) C d_X12_readsPurse_36 (by decide) hf (fun c36 hf => ?_) (fun c36 hf => ?_)
  · refine z_aload_n (j := 0) C d_X12_readsPurse_41 rfl ?_
    refine zg_X12_number C rfl tw_1222 d_X12_readsPurse_42 ?_
    refine z_istore_n (lv' := [(2, aI (gI q33.2 20 11)), (0, aR 20), (1, aI v1)]) C d_X12_readsPurse_45 (by decide) rfl ?_
    exact z_sub [1, 2, 0] rfl (t_X12_readsPurse_46 C hr  _ _ _ hf)
  · refine z_iconst (v := 0) C d_X12_readsPurse_39 (by decide) ?_
    exact r_i C hr (by decide) d_X12_readsPurse_40 hf
/-- TickPoolsModel.readsPurse()Z -/
def f_X12_readsPurse (S : Mem) : Option (Int32 × Mem) := ((f_X12_passWord S).bind fun q1 => ((f_X12_reads 0 ((gI q1.2 20 25) - 1) q1.2).bind fun q12 => (if q12.1 = 0 then (some (0, q12.2)) else (f_X12_readsPurse_25  (gI q12.2 20 11) q12.2))))
set_option maxRecDepth 20000 in
theorem c_X12_readsPurse {l : Launch} {Γ : GG} (hI : Inj Γ) {S : Mem} {q : Int32 × Mem} (hf : f_X12_readsPurse S = some q) : MM l Γ yX12_readsPurse cX12_readsPurse 3 (some .boolean) 3 64 [aR 20] S (some (aI q.1)) q.2 := by
  refine met_of hI "TickPoolsModel" rfl (by decide +kernel) (Nat.le_of_ble_eq_true rfl) (fun X hX C hr => ?_)
  unfold f_X12_readsPurse at hf
  show ZZ X Γ 3 _ S 0 [(0, aR 20)] []
  refine z_aload_n (j := 0) C d_X12_readsPurse_0 rfl ?_
  obtain ⟨q1, hF, hf⟩ := bd hf
  refine z_callV0 (rest := []) C [] rfl (by decide) rfl rfl k_X12_passWord tw_1423 ⟨by decide, by decide⟩ (Nat.le_of_ble_eq_true rfl) d_X12_readsPurse_1 (c_X12_passWord C.inj hF) rfl ?_
  refine z_aload_n (j := 0) C d_X12_readsPurse_4 rfl ?_
  refine z_iconst (v := 0) C d_X12_readsPurse_5 (by decide) ?_
  refine z_aload_n (j := 0) C d_X12_readsPurse_6 rfl ?_
  refine zg_X12_readPeople C rfl tw_1236 d_X12_readsPurse_7 ?_
  refine z_iconst (v := 1) C d_X12_readsPurse_10 (by decide) ?_
  refine z_isub C d_X12_readsPurse_11 ?_
  obtain ⟨q12, hF, hf⟩ := bd hf
  refine z_callV1 (rest := []) C [aI 0, aI ((gI q1.2 20 25) - 1)] rfl (by decide) rfl rfl k_X12_reads tw_1427 ⟨by decide, by decide⟩ (Nat.le_of_ble_eq_true rfl) d_X12_readsPurse_12 (c_X12_reads C.inj hF) rfl ?_
  refine z_if_ne (tgt := 20) C d_X12_readsPurse_15 (by decide) hf (fun c15 hf => ?_) (fun c15 hf => ?_)
  · refine z_aload_n (j := 0) C d_X12_readsPurse_20 rfl ?_
    refine zg_X12_number C rfl tw_1222 d_X12_readsPurse_21 ?_
    refine z_istore_n (lv' := [(1, aI (gI q12.2 20 11)), (0, aR 20)]) C d_X12_readsPurse_24 (by decide) rfl ?_
    exact z_sub [1, 0] rfl (t_X12_readsPurse_25 C hr  _ _ hf)
  · refine z_iconst (v := 0) C d_X12_readsPurse_18 (by decide) ?_
    exact r_i C hr (by decide) d_X12_readsPurse_19 hf
theorem d_X12_readsClause_0 : decode cX12_readsClause 0 = .ok (.aload_n 0, 1) := by decide +kernel
theorem d_X12_readsClause_1 : decode cX12_readsClause 1 = .ok (.invokevirtual 188, 3) := by decide +kernel
theorem d_X12_readsClause_4 : decode cX12_readsClause 4 = .ok (.lstore_n 2, 1) := by decide +kernel
theorem d_X12_readsClause_5 : decode cX12_readsClause 5 = .ok (.aload_n 0, 1) := by decide +kernel
theorem d_X12_readsClause_6 : decode cX12_readsClause 6 = .ok (.getfield 144, 3) := by decide +kernel
theorem d_X12_readsClause_9 : decode cX12_readsClause 9 = .ok (.istore 4, 2) := by decide +kernel
theorem d_X12_readsClause_11 : decode cX12_readsClause 11 = .ok (.lload_n 2, 1) := by decide +kernel
theorem d_X12_readsClause_12 : decode cX12_readsClause 12 = .ok (.aload_n 0, 1) := by decide +kernel
theorem d_X12_readsClause_13 : decode cX12_readsClause 13 = .ok (.getfield 31, 3) := by decide +kernel
theorem d_X12_readsClause_16 : decode cX12_readsClause 16 = .ok (.lcmp, 1) := by decide +kernel
theorem d_X12_readsClause_17 : decode cX12_readsClause 17 = .ok (.ifCond .eq 29, 3) := by decide +kernel
theorem d_X12_readsClause_20 : decode cX12_readsClause 20 = .ok (.lload_n 2, 1) := by decide +kernel
theorem d_X12_readsClause_21 : decode cX12_readsClause 21 = .ok (.aload_n 0, 1) := by decide +kernel
theorem d_X12_readsClause_22 : decode cX12_readsClause 22 = .ok (.getfield 35, 3) := by decide +kernel
theorem d_X12_readsClause_25 : decode cX12_readsClause 25 = .ok (.lcmp, 1) := by decide +kernel
theorem d_X12_readsClause_26 : decode cX12_readsClause 26 = .ok (.ifCond .eq 20, 3) := by decide +kernel
theorem d_X12_readsClause_29 : decode cX12_readsClause 29 = .ok (.lload_n 2, 1) := by decide +kernel
theorem d_X12_readsClause_30 : decode cX12_readsClause 30 = .ok (.aload_n 0, 1) := by decide +kernel
theorem d_X12_readsClause_31 : decode cX12_readsClause 31 = .ok (.getfield 38, 3) := by decide +kernel
theorem d_X12_readsClause_34 : decode cX12_readsClause 34 = .ok (.lcmp, 1) := by decide +kernel
theorem d_X12_readsClause_35 : decode cX12_readsClause 35 = .ok (.ifCond .eq 11, 3) := by decide +kernel
theorem d_X12_readsClause_38 : decode cX12_readsClause 38 = .ok (.aload_n 0, 1) := by decide +kernel
theorem d_X12_readsClause_39 : decode cX12_readsClause 39 = .ok (.iconst 0, 1) := by decide +kernel
theorem d_X12_readsClause_40 : decode cX12_readsClause 40 = .ok (.iload 4, 2) := by decide +kernel
theorem d_X12_readsClause_42 : decode cX12_readsClause 42 = .ok (.invokevirtual 165, 3) := by decide +kernel
theorem d_X12_readsClause_45 : decode cX12_readsClause 45 = .ok (.ireturn, 1) := by decide +kernel
theorem d_X12_readsClause_46 : decode cX12_readsClause 46 = .ok (.iload_n 1, 1) := by decide +kernel
theorem d_X12_readsClause_47 : decode cX12_readsClause 47 = .ok (.bipush 30, 2) := by decide +kernel
theorem d_X12_readsClause_49 : decode cX12_readsClause 49 = .ok (.if_icmp .ne 11, 3) := by decide +kernel
theorem d_X12_readsClause_52 : decode cX12_readsClause 52 = .ok (.aload_n 0, 1) := by decide +kernel
theorem d_X12_readsClause_53 : decode cX12_readsClause 53 = .ok (.iconst 2, 1) := by decide +kernel
theorem d_X12_readsClause_54 : decode cX12_readsClause 54 = .ok (.iload 4, 2) := by decide +kernel
theorem d_X12_readsClause_56 : decode cX12_readsClause 56 = .ok (.invokevirtual 165, 3) := by decide +kernel
theorem d_X12_readsClause_59 : decode cX12_readsClause 59 = .ok (.ireturn, 1) := by decide +kernel
theorem d_X12_readsClause_60 : decode cX12_readsClause 60 = .ok (.lload_n 2, 1) := by decide +kernel
theorem d_X12_readsClause_61 : decode cX12_readsClause 61 = .ok (.aload_n 0, 1) := by decide +kernel
theorem d_X12_readsClause_62 : decode cX12_readsClause 62 = .ok (.getfield 31, 3) := by decide +kernel
theorem d_X12_readsClause_65 : decode cX12_readsClause 65 = .ok (.lcmp, 1) := by decide +kernel
theorem d_X12_readsClause_66 : decode cX12_readsClause 66 = .ok (.ifCond .ne 10, 3) := by decide +kernel
theorem d_X12_readsClause_69 : decode cX12_readsClause 69 = .ok (.aload_n 0, 1) := by decide +kernel
theorem d_X12_readsClause_70 : decode cX12_readsClause 70 = .ok (.iload 4, 2) := by decide +kernel
theorem d_X12_readsClause_72 : decode cX12_readsClause 72 = .ok (.invokevirtual 192, 3) := by decide +kernel
theorem d_X12_readsClause_75 : decode cX12_readsClause 75 = .ok (.ireturn, 1) := by decide +kernel
theorem d_X12_readsClause_76 : decode cX12_readsClause 76 = .ok (.aload_n 0, 1) := by decide +kernel
theorem d_X12_readsClause_77 : decode cX12_readsClause 77 = .ok (.getfield 172, 3) := by decide +kernel
theorem d_X12_readsClause_80 : decode cX12_readsClause 80 = .ok (.ifCond .ne 11, 3) := by decide +kernel
theorem d_X12_readsClause_83 : decode cX12_readsClause 83 = .ok (.aload_n 0, 1) := by decide +kernel
theorem d_X12_readsClause_84 : decode cX12_readsClause 84 = .ok (.iconst 2, 1) := by decide +kernel
theorem d_X12_readsClause_85 : decode cX12_readsClause 85 = .ok (.iload 4, 2) := by decide +kernel
theorem d_X12_readsClause_87 : decode cX12_readsClause 87 = .ok (.invokevirtual 165, 3) := by decide +kernel
theorem d_X12_readsClause_90 : decode cX12_readsClause 90 = .ok (.ireturn, 1) := by decide +kernel
theorem d_X12_readsClause_91 : decode cX12_readsClause 91 = .ok (.lload_n 2, 1) := by decide +kernel
theorem d_X12_readsClause_92 : decode cX12_readsClause 92 = .ok (.aload_n 0, 1) := by decide +kernel
theorem d_X12_readsClause_93 : decode cX12_readsClause 93 = .ok (.getfield 35, 3) := by decide +kernel
theorem d_X12_readsClause_96 : decode cX12_readsClause 96 = .ok (.lcmp, 1) := by decide +kernel
theorem d_X12_readsClause_97 : decode cX12_readsClause 97 = .ok (.ifCond .ne 12, 3) := by decide +kernel
theorem d_X12_readsClause_100 : decode cX12_readsClause 100 = .ok (.aload_n 0, 1) := by decide +kernel
theorem d_X12_readsClause_101 : decode cX12_readsClause 101 = .ok (.iload 4, 2) := by decide +kernel
theorem d_X12_readsClause_103 : decode cX12_readsClause 103 = .ok (.invokevirtual 195, 3) := by decide +kernel
theorem d_X12_readsClause_106 : decode cX12_readsClause 106 = .ok (.goto 7, 3) := by decide +kernel
theorem d_X12_readsClause_109 : decode cX12_readsClause 109 = .ok (.aload_n 0, 1) := by decide +kernel
theorem d_X12_readsClause_110 : decode cX12_readsClause 110 = .ok (.invokevirtual 198, 3) := by decide +kernel
theorem d_X12_readsClause_113 : decode cX12_readsClause 113 = .ok (.ireturn, 1) := by decide +kernel
def f_X12_readsClause_113 (s0 : Int32) (S : Mem) : Option (Int32 × Mem) := (if isB s0 = true then (some (s0, S)) else none)
set_option maxRecDepth 20000 in
theorem t_X12_readsClause_113 {X : MC} {Γ : GG} (C : CX X Γ cX12_readsClause 5 "TickPoolsModel" 4 89) (hr : X.2.2.2.2.2.2.2.2.1.sig.returnType = some .boolean) {q : Int32 × Mem} (s0 : Int32) (S : Mem) (hf : f_X12_readsClause_113 s0 S = some q) : ZZ X Γ 5 (QQ X Γ (some (aI q.1)) q.2) S 113 [] [aI s0] := by
  unfold f_X12_readsClause_113 at hf
  obtain ⟨hb113_0, hf⟩ := gd hf
  exact r_i C hr (isB_nar hb113_0).1 d_X12_readsClause_113 hf
def f_X12_readsClause_46 (v1 : Int32) (v2 : Int64) (v4 : Int32) (S : Mem) : Option (Int32 × Mem) := (if v1 = 30 then ((f_X12_fails 2 v4 S).bind fun q56 => (if isB q56.1 = true then (some (q56.1, q56.2)) else none)) else (if v2 = (gL S 20 12) then ((f_X12_readsMarket v4 S).bind fun q72 => (if isB q72.1 = true then (some (q72.1, q72.2)) else none)) else (if (gI S 20 24) = 0 then ((f_X12_fails 2 v4 S).bind fun q87 => (if isB q87.1 = true then (some (q87.1, q87.2)) else none)) else (if v2 = (gL S 20 13) then ((f_X12_readsPool v4 S).bind fun q103 => (f_X12_readsClause_113  q103.1 q103.2)) else ((f_X12_readsPurse S).bind fun q110 => (f_X12_readsClause_113  q110.1 q110.2))))))
set_option maxRecDepth 20000 in
theorem t_X12_readsClause_46 {X : MC} {Γ : GG} (C : CX X Γ cX12_readsClause 5 "TickPoolsModel" 4 89) (hr : X.2.2.2.2.2.2.2.2.1.sig.returnType = some .boolean) {q : Int32 × Mem} (v1 : Int32) (v2 : Int64) (v4 : Int32) (S : Mem) (hf : f_X12_readsClause_46 v1 v2 v4 S = some q) : ZZ X Γ 5 (QQ X Γ (some (aI q.1)) q.2) S 46 [(0, aR 20), (1, aI v1), (2, aJ v2), (4, aI v4)] [] := by
  unfold f_X12_readsClause_46 at hf
  refine z_iload_n (j := 1) C d_X12_readsClause_46 rfl ?_
  refine z_bipush (v := 30) C d_X12_readsClause_47 (by decide) ?_
  refine z_icmp_ne (tgt := 60) C d_X12_readsClause_49 (by decide) hf (fun c49 hf => ?_) (fun c49 hf => ?_)
  · refine z_lload_n (j := 2) C d_X12_readsClause_60 rfl ?_
    refine z_aload_n (j := 0) C d_X12_readsClause_61 rfl ?_
    refine zg_X12_marketWord C rfl tw_1223 d_X12_readsClause_62 ?_
    refine z_lne (tgt := 76) C d_X12_readsClause_65 d_X12_readsClause_66 (by decide) hf (fun c65 hf => ?_) (fun c65 hf => ?_)
    · refine z_aload_n (j := 0) C d_X12_readsClause_76 rfl ?_
      refine zg_X12_readThings C rfl tw_1235 d_X12_readsClause_77 ?_
      refine z_if_ne (tgt := 91) C d_X12_readsClause_80 (by decide) hf (fun c80 hf => ?_) (fun c80 hf => ?_)
      · refine z_lload_n (j := 2) C d_X12_readsClause_91 rfl ?_
        refine z_aload_n (j := 0) C d_X12_readsClause_92 rfl ?_
        refine zg_X12_poolWord C rfl tw_1224 d_X12_readsClause_93 ?_
        refine z_lne (tgt := 109) C d_X12_readsClause_96 d_X12_readsClause_97 (by decide) hf (fun c96 hf => ?_) (fun c96 hf => ?_)
        · refine z_aload_n (j := 0) C d_X12_readsClause_109 rfl ?_
          obtain ⟨q110, hF, hf⟩ := bd hf
          refine z_callV1 (rest := []) C [] rfl (by decide) rfl rfl k_X12_readsPurse tw_1438 ⟨by decide, by decide⟩ (Nat.le_of_ble_eq_true rfl) d_X12_readsClause_110 (c_X12_readsPurse C.inj hF) rfl ?_
          exact z_sub [] rfl (t_X12_readsClause_113 C hr  _ _ hf)
        · refine z_aload_n (j := 0) C d_X12_readsClause_100 rfl ?_
          refine z_iload (j := 3) C d_X12_readsClause_101 rfl ?_
          obtain ⟨q103, hF, hf⟩ := bd hf
          refine z_callV1 (rest := []) C [aI v4] rfl (by decide) rfl rfl k_X12_readsPool tw_1434 ⟨by decide, by decide⟩ (Nat.le_of_ble_eq_true rfl) d_X12_readsClause_103 (c_X12_readsPool C.inj hF) rfl ?_
          refine z_goto (tgt := 113) C d_X12_readsClause_106 (by decide) ?_
          exact z_sub [] rfl (t_X12_readsClause_113 C hr  _ _ hf)
      · refine z_aload_n (j := 0) C d_X12_readsClause_83 rfl ?_
        refine z_iconst (v := 2) C d_X12_readsClause_84 (by decide) ?_
        refine z_iload (j := 3) C d_X12_readsClause_85 rfl ?_
        obtain ⟨q87, hF, hf⟩ := bd hf
        refine z_callV1 (rest := []) C [aI 2, aI v4] rfl (by decide) rfl rfl k_X12_fails tw_1415 ⟨by decide, by decide⟩ (Nat.le_of_ble_eq_true rfl) d_X12_readsClause_87 (c_X12_fails C.inj hF) rfl ?_
        obtain ⟨hb90_1, hf⟩ := gd hf
        exact r_i C hr (isB_nar hb90_1).1 d_X12_readsClause_90 hf
    · refine z_aload_n (j := 0) C d_X12_readsClause_69 rfl ?_
      refine z_iload (j := 3) C d_X12_readsClause_70 rfl ?_
      obtain ⟨q72, hF, hf⟩ := bd hf
      refine z_callV1 (rest := []) C [aI v4] rfl (by decide) rfl rfl k_X12_readsMarket tw_1419 ⟨by decide, by decide⟩ (Nat.le_of_ble_eq_true rfl) d_X12_readsClause_72 (c_X12_readsMarket C.inj hF) rfl ?_
      obtain ⟨hb75_1, hf⟩ := gd hf
      exact r_i C hr (isB_nar hb75_1).1 d_X12_readsClause_75 hf
  · refine z_aload_n (j := 0) C d_X12_readsClause_52 rfl ?_
    refine z_iconst (v := 2) C d_X12_readsClause_53 (by decide) ?_
    refine z_iload (j := 3) C d_X12_readsClause_54 rfl ?_
    obtain ⟨q56, hF, hf⟩ := bd hf
    refine z_callV1 (rest := []) C [aI 2, aI v4] rfl (by decide) rfl rfl k_X12_fails tw_1415 ⟨by decide, by decide⟩ (Nat.le_of_ble_eq_true rfl) d_X12_readsClause_56 (c_X12_fails C.inj hF) rfl ?_
    obtain ⟨hb59_1, hf⟩ := gd hf
    exact r_i C hr (isB_nar hb59_1).1 d_X12_readsClause_59 hf
def f_X12_readsClause_11 (v1 : Int32) (v2 : Int64) (v4 : Int32) (S : Mem) : Option (Int32 × Mem) := (if v2 = (gL S 20 12) then (f_X12_readsClause_46  v1 v2 v4 S) else (if v2 = (gL S 20 13) then (f_X12_readsClause_46  v1 v2 v4 S) else (if v2 = (gL S 20 14) then (f_X12_readsClause_46  v1 v2 v4 S) else ((f_X12_fails 0 v4 S).bind fun q42 => (if isB q42.1 = true then (some (q42.1, q42.2)) else none)))))
set_option maxRecDepth 20000 in
theorem t_X12_readsClause_11 {X : MC} {Γ : GG} (C : CX X Γ cX12_readsClause 5 "TickPoolsModel" 4 89) (hr : X.2.2.2.2.2.2.2.2.1.sig.returnType = some .boolean) {q : Int32 × Mem} (v1 : Int32) (v2 : Int64) (v4 : Int32) (S : Mem) (hf : f_X12_readsClause_11 v1 v2 v4 S = some q) : ZZ X Γ 5 (QQ X Γ (some (aI q.1)) q.2) S 11 [(0, aR 20), (1, aI v1), (2, aJ v2), (4, aI v4)] [] := by
  unfold f_X12_readsClause_11 at hf
  refine z_lload_n (j := 2) C d_X12_readsClause_11 rfl ?_
  refine z_aload_n (j := 0) C d_X12_readsClause_12 rfl ?_
  refine zg_X12_marketWord C rfl tw_1223 d_X12_readsClause_13 ?_
  refine z_leq (tgt := 46) C d_X12_readsClause_16 d_X12_readsClause_17 (by decide) hf (fun c16 hf => ?_) (fun c16 hf => ?_)
  · exact z_sub [0, 1, 2, 3] rfl (t_X12_readsClause_46 C hr  _ _ _ _ hf)
  · refine z_lload_n (j := 2) C d_X12_readsClause_20 rfl ?_
    refine z_aload_n (j := 0) C d_X12_readsClause_21 rfl ?_
    refine zg_X12_poolWord C rfl tw_1224 d_X12_readsClause_22 ?_
    refine z_leq (tgt := 46) C d_X12_readsClause_25 d_X12_readsClause_26 (by decide) hf (fun c25 hf => ?_) (fun c25 hf => ?_)
    · exact z_sub [0, 1, 2, 3] rfl (t_X12_readsClause_46 C hr  _ _ _ _ hf)
    · refine z_lload_n (j := 2) C d_X12_readsClause_29 rfl ?_
      refine z_aload_n (j := 0) C d_X12_readsClause_30 rfl ?_
      refine zg_X12_purseWord C rfl tw_1225 d_X12_readsClause_31 ?_
      refine z_leq (tgt := 46) C d_X12_readsClause_34 d_X12_readsClause_35 (by decide) hf (fun c34 hf => ?_) (fun c34 hf => ?_)
      · exact z_sub [0, 1, 2, 3] rfl (t_X12_readsClause_46 C hr  _ _ _ _ hf)
      · refine z_aload_n (j := 0) C d_X12_readsClause_38 rfl ?_
        refine z_iconst (v := 0) C d_X12_readsClause_39 (by decide) ?_
        refine z_iload (j := 3) C d_X12_readsClause_40 rfl ?_
        obtain ⟨q42, hF, hf⟩ := bd hf
        refine z_callV1 (rest := []) C [aI 0, aI v4] rfl (by decide) rfl rfl k_X12_fails tw_1415 ⟨by decide, by decide⟩ (Nat.le_of_ble_eq_true rfl) d_X12_readsClause_42 (c_X12_fails C.inj hF) rfl ?_
        obtain ⟨hb45_1, hf⟩ := gd hf
        exact r_i C hr (isB_nar hb45_1).1 d_X12_readsClause_45 hf
/-- TickPoolsModel.readsClause(I)Z -/
def f_X12_readsClause (p1 : Int32) (S : Mem) : Option (Int32 × Mem) := ((f_X12_wordHere S).bind fun q1 => (f_X12_readsClause_11  p1 q1.1 (gI q1.2 20 9) q1.2))
set_option maxRecDepth 20000 in
theorem c_X12_readsClause {l : Launch} {Γ : GG} (hI : Inj Γ) {p1 : Int32} {S : Mem} {q : Int32 × Mem} (hf : f_X12_readsClause p1 S = some q) : MM l Γ yX12_readsClause cX12_readsClause 5 (some .boolean) 4 89 [aR 20, aI p1] S (some (aI q.1)) q.2 := by
  refine met_of hI "TickPoolsModel" rfl (by decide +kernel) (Nat.le_of_ble_eq_true rfl) (fun X hX C hr => ?_)
  unfold f_X12_readsClause at hf
  show ZZ X Γ 5 _ S 0 [(0, aR 20), (1, aI p1)] []
  refine z_aload_n (j := 0) C d_X12_readsClause_0 rfl ?_
  obtain ⟨q1, hF, hf⟩ := bd hf
  refine z_callV1 (rest := []) C [] rfl (by decide) rfl rfl k_X12_wordHere tw_1400 ⟨by decide, by decide⟩ (Nat.le_of_ble_eq_true rfl) d_X12_readsClause_1 (c_X12_wordHere C.inj hF) rfl ?_
  refine z_lstore_n (lv' := [(2, aJ q1.1), (0, aR 20), (1, aI p1)]) C d_X12_readsClause_4 (by decide) rfl ?_
  refine z_aload_n (j := 1) C d_X12_readsClause_5 rfl ?_
  refine zg_X12_at C rfl tw_1220 d_X12_readsClause_6 ?_
  refine z_istore (lv' := [(4, aI (gI q1.2 20 9)), (2, aJ q1.1), (0, aR 20), (1, aI p1)]) C d_X12_readsClause_9 (by decide) rfl ?_
  exact z_sub [2, 3, 1, 0] rfl (t_X12_readsClause_11 C hr  _ _ _ _ hf)
theorem d_X12_readsAll_0 : decode cX12_readsAll 0 = .ok (.aload_n 0, 1) := by decide +kernel
theorem d_X12_readsAll_1 : decode cX12_readsAll 1 = .ok (.iconst 0, 1) := by decide +kernel
theorem d_X12_readsAll_2 : decode cX12_readsAll 2 = .ok (.putfield 172, 3) := by decide +kernel
theorem d_X12_readsAll_5 : decode cX12_readsAll 5 = .ok (.aload_n 0, 1) := by decide +kernel
theorem d_X12_readsAll_6 : decode cX12_readsAll 6 = .ok (.iconst 0, 1) := by decide +kernel
theorem d_X12_readsAll_7 : decode cX12_readsAll 7 = .ok (.putfield 184, 3) := by decide +kernel
theorem d_X12_readsAll_10 : decode cX12_readsAll 10 = .ok (.iconst 0, 1) := by decide +kernel
theorem d_X12_readsAll_11 : decode cX12_readsAll 11 = .ok (.istore_n 1, 1) := by decide +kernel
theorem d_X12_readsAll_12 : decode cX12_readsAll 12 = .ok (.iload_n 1, 1) := by decide +kernel
theorem d_X12_readsAll_13 : decode cX12_readsAll 13 = .ok (.bipush 20, 2) := by decide +kernel
theorem d_X12_readsAll_15 : decode cX12_readsAll 15 = .ok (.if_icmp .ge 16, 3) := by decide +kernel
theorem d_X12_readsAll_18 : decode cX12_readsAll 18 = .ok (.aload_n 0, 1) := by decide +kernel
theorem d_X12_readsAll_19 : decode cX12_readsAll 19 = .ok (.getfield 71, 3) := by decide +kernel
theorem d_X12_readsAll_22 : decode cX12_readsAll 22 = .ok (.iload_n 1, 1) := by decide +kernel
theorem d_X12_readsAll_23 : decode cX12_readsAll 23 = .ok (.iconst 0, 1) := by decide +kernel
theorem d_X12_readsAll_24 : decode cX12_readsAll 24 = .ok (.iastore, 1) := by decide +kernel
theorem d_X12_readsAll_25 : decode cX12_readsAll 25 = .ok (.iinc 1 1, 3) := by decide +kernel
theorem d_X12_readsAll_28 : decode cX12_readsAll 28 = .ok (.goto (-16), 3) := by decide +kernel
theorem d_X12_readsAll_31 : decode cX12_readsAll 31 = .ok (.aload_n 0, 1) := by decide +kernel
theorem d_X12_readsAll_32 : decode cX12_readsAll 32 = .ok (.iconst 0, 1) := by decide +kernel
theorem d_X12_readsAll_33 : decode cX12_readsAll 33 = .ok (.putfield 144, 3) := by decide +kernel
theorem d_X12_readsAll_36 : decode cX12_readsAll 36 = .ok (.iconst 0, 1) := by decide +kernel
theorem d_X12_readsAll_37 : decode cX12_readsAll 37 = .ok (.istore_n 1, 1) := by decide +kernel
theorem d_X12_readsAll_38 : decode cX12_readsAll 38 = .ok (.aload_n 0, 1) := by decide +kernel
theorem d_X12_readsAll_39 : decode cX12_readsAll 39 = .ok (.iload_n 1, 1) := by decide +kernel
theorem d_X12_readsAll_40 : decode cX12_readsAll 40 = .ok (.invokevirtual 202, 3) := by decide +kernel
theorem d_X12_readsAll_43 : decode cX12_readsAll 43 = .ok (.ifCond .ne 5, 3) := by decide +kernel
theorem d_X12_readsAll_46 : decode cX12_readsAll 46 = .ok (.iconst 0, 1) := by decide +kernel
theorem d_X12_readsAll_47 : decode cX12_readsAll 47 = .ok (.ireturn, 1) := by decide +kernel
theorem d_X12_readsAll_48 : decode cX12_readsAll 48 = .ok (.iinc 1 1, 3) := by decide +kernel
theorem d_X12_readsAll_51 : decode cX12_readsAll 51 = .ok (.aload_n 0, 1) := by decide +kernel
theorem d_X12_readsAll_52 : decode cX12_readsAll 52 = .ok (.bipush 59, 2) := by decide +kernel
theorem d_X12_readsAll_54 : decode cX12_readsAll 54 = .ok (.invokevirtual 205, 3) := by decide +kernel
theorem d_X12_readsAll_57 : decode cX12_readsAll 57 = .ok (.ifCond .ne (-19), 3) := by decide +kernel
theorem d_X12_readsAll_60 : decode cX12_readsAll 60 = .ok (.aload_n 0, 1) := by decide +kernel
theorem d_X12_readsAll_61 : decode cX12_readsAll 61 = .ok (.invokevirtual 151, 3) := by decide +kernel
theorem d_X12_readsAll_64 : decode cX12_readsAll 64 = .ok (.iconst (-1), 1) := by decide +kernel
theorem d_X12_readsAll_65 : decode cX12_readsAll 65 = .ok (.if_icmp .eq 15, 3) := by decide +kernel
theorem d_X12_readsAll_68 : decode cX12_readsAll 68 = .ok (.aload_n 0, 1) := by decide +kernel
theorem d_X12_readsAll_69 : decode cX12_readsAll 69 = .ok (.iconst 0, 1) := by decide +kernel
theorem d_X12_readsAll_70 : decode cX12_readsAll 70 = .ok (.aload_n 0, 1) := by decide +kernel
theorem d_X12_readsAll_71 : decode cX12_readsAll 71 = .ok (.getfield 144, 3) := by decide +kernel
theorem d_X12_readsAll_74 : decode cX12_readsAll 74 = .ok (.invokevirtual 165, 3) := by decide +kernel
theorem d_X12_readsAll_77 : decode cX12_readsAll 77 = .ok (.ifCond .eq 7, 3) := by decide +kernel
theorem d_X12_readsAll_80 : decode cX12_readsAll 80 = .ok (.iconst 1, 1) := by decide +kernel
theorem d_X12_readsAll_81 : decode cX12_readsAll 81 = .ok (.goto 4, 3) := by decide +kernel
theorem d_X12_readsAll_84 : decode cX12_readsAll 84 = .ok (.iconst 0, 1) := by decide +kernel
theorem d_X12_readsAll_85 : decode cX12_readsAll 85 = .ok (.ireturn, 1) := by decide +kernel
def f_X12_readsAll_85 (s0 : Int32) (S : Mem) : Option (Int32 × Mem) := (if isB s0 = true then (some (s0, S)) else none)
set_option maxRecDepth 20000 in
theorem t_X12_readsAll_85 {X : MC} {Γ : GG} (C : CX X Γ cX12_readsAll 2 "TickPoolsModel" 5 113) (hr : X.2.2.2.2.2.2.2.2.1.sig.returnType = some .boolean) {q : Int32 × Mem} (s0 : Int32) (S : Mem) (hf : f_X12_readsAll_85 s0 S = some q) : ZZ X Γ 2 (QQ X Γ (some (aI q.1)) q.2) S 85 [] [aI s0] := by
  unfold f_X12_readsAll_85 at hf
  obtain ⟨hb85_0, hf⟩ := gd hf
  exact r_i C hr (isB_nar hb85_0).1 d_X12_readsAll_85 hf
def f_X12_readsAll_80 (S : Mem) : Option (Int32 × Mem) := (f_X12_readsAll_85  1 S)
set_option maxRecDepth 20000 in
theorem t_X12_readsAll_80 {X : MC} {Γ : GG} (C : CX X Γ cX12_readsAll 2 "TickPoolsModel" 5 113) (hr : X.2.2.2.2.2.2.2.2.1.sig.returnType = some .boolean) {q : Int32 × Mem} (S : Mem) (hf : f_X12_readsAll_80 S = some q) : ZZ X Γ 2 (QQ X Γ (some (aI q.1)) q.2) S 80 [] [] := by
  unfold f_X12_readsAll_80 at hf
  refine z_iconst (v := 1) C d_X12_readsAll_80 (by decide) ?_
  refine z_goto (tgt := 85) C d_X12_readsAll_81 (by decide) ?_
  exact z_sub [] rfl (t_X12_readsAll_85 C hr  _ _ hf)
def f_X12_readsAll_51 (k38 : Int32 → Mem → Option (Int32 × Mem)) (v1 : Int32) (S : Mem) : Option (Int32 × Mem) := ((f_X12_takesSign 59 S).bind fun q54 => (if q54.1 = 0 then ((f_X12_next q54.2).bind fun q61 => (if q61.1 = (-1) then (f_X12_readsAll_80  q61.2) else ((f_X12_fails 0 (gI q61.2 20 9) q61.2).bind fun q74 => (if q74.1 = 0 then (f_X12_readsAll_85  0 q74.2) else (f_X12_readsAll_80  q74.2))))) else (k38 v1 q54.2)))
set_option maxRecDepth 20000 in
theorem t_X12_readsAll_51 {X : MC} {Γ : GG} (C : CX X Γ cX12_readsAll 2 "TickPoolsModel" 5 113) (hr : X.2.2.2.2.2.2.2.2.1.sig.returnType = some .boolean) {k38 : Int32 → Mem → Option (Int32 × Mem)} {q : Int32 × Mem} (hk38 : ∀ (v1 : Int32) (S : Mem), k38 v1 S = some q → ZZ X Γ 2 (QQ X Γ (some (aI q.1)) q.2) S 38 [(0, aR 20), (1, aI v1)] []) (v1 : Int32) (S : Mem) (hf : f_X12_readsAll_51 k38 v1 S = some q) : ZZ X Γ 2 (QQ X Γ (some (aI q.1)) q.2) S 51 [(0, aR 20), (1, aI v1)] [] := by
  unfold f_X12_readsAll_51 at hf
  refine z_aload_n (j := 0) C d_X12_readsAll_51 rfl ?_
  refine z_bipush (v := 59) C d_X12_readsAll_52 (by decide) ?_
  obtain ⟨q54, hF, hf⟩ := bd hf
  refine z_callV1 (rest := []) C [aI 59] rfl (by decide) rfl rfl k_X12_takesSign tw_1443 ⟨by decide, by decide⟩ (Nat.le_of_ble_eq_true rfl) d_X12_readsAll_54 (c_X12_takesSign C.inj hF) rfl ?_
  refine z_if_ne (tgt := 38) C d_X12_readsAll_57 (by decide) hf (fun c57 hf => ?_) (fun c57 hf => ?_)
  · exact z_sub [0, 1] rfl (hk38 _ _ hf)
  · refine z_aload_n (j := 0) C d_X12_readsAll_60 rfl ?_
    obtain ⟨q61, hF, hf⟩ := bd hf
    refine z_callV1 (rest := []) C [] rfl (by decide) rfl rfl k_X12_next tw_1404 ⟨by decide, by decide⟩ (Nat.le_of_ble_eq_true rfl) d_X12_readsAll_61 (c_X12_next C.inj hF) rfl ?_
    refine z_iconst (v := (-1)) C d_X12_readsAll_64 (by decide) ?_
    refine z_icmp_eq (tgt := 80) C d_X12_readsAll_65 (by decide) hf (fun c65 hf => ?_) (fun c65 hf => ?_)
    · exact z_sub [] rfl (t_X12_readsAll_80 C hr  _ hf)
    · refine z_aload_n (j := 0) C d_X12_readsAll_68 rfl ?_
      refine z_iconst (v := 0) C d_X12_readsAll_69 (by decide) ?_
      refine z_aload_n (j := 0) C d_X12_readsAll_70 rfl ?_
      refine zg_X12_at C rfl tw_1220 d_X12_readsAll_71 ?_
      obtain ⟨q74, hF, hf⟩ := bd hf
      refine z_callV1 (rest := []) C [aI 0, aI (gI q61.2 20 9)] rfl (by decide) rfl rfl k_X12_fails tw_1415 ⟨by decide, by decide⟩ (Nat.le_of_ble_eq_true rfl) d_X12_readsAll_74 (c_X12_fails C.inj hF) rfl ?_
      refine z_if_eq (tgt := 84) C d_X12_readsAll_77 (by decide) hf (fun c77 hf => ?_) (fun c77 hf => ?_)
      · refine z_iconst (v := 0) C d_X12_readsAll_84 (by decide) ?_
        exact z_sub [] rfl (t_X12_readsAll_85 C hr  _ _ hf)
      · exact z_sub [] rfl (t_X12_readsAll_80 C hr  _ hf)
def f_X12_readsAll_38B (k38 : Int32 → Mem → Option (Int32 × Mem)) (v1 : Int32) (S : Mem) : Option (Int32 × Mem) := ((f_X12_readsClause v1 S).bind fun q40 => (if q40.1 = 0 then (some (0, q40.2)) else (f_X12_readsAll_51 k38 (v1 + 1) q40.2)))
set_option maxRecDepth 20000 in
theorem t_X12_readsAll_38B {X : MC} {Γ : GG} (C : CX X Γ cX12_readsAll 2 "TickPoolsModel" 5 113) (hr : X.2.2.2.2.2.2.2.2.1.sig.returnType = some .boolean) {k38 : Int32 → Mem → Option (Int32 × Mem)} {q : Int32 × Mem} (hk38 : ∀ (v1 : Int32) (S : Mem), k38 v1 S = some q → ZZ X Γ 2 (QQ X Γ (some (aI q.1)) q.2) S 38 [(0, aR 20), (1, aI v1)] []) (v1 : Int32) (S : Mem) (hf : f_X12_readsAll_38B k38 v1 S = some q) : ZZ X Γ 2 (QQ X Γ (some (aI q.1)) q.2) S 38 [(0, aR 20), (1, aI v1)] [] := by
  unfold f_X12_readsAll_38B at hf
  refine z_aload_n (j := 0) C d_X12_readsAll_38 rfl ?_
  refine z_iload_n (j := 1) C d_X12_readsAll_39 rfl ?_
  obtain ⟨q40, hF, hf⟩ := bd hf
  refine z_callV1 (rest := []) C [aI v1] rfl (by decide) rfl rfl k_X12_readsClause tw_1396 ⟨by decide, by decide⟩ (Nat.le_of_ble_eq_true rfl) d_X12_readsAll_40 (c_X12_readsClause C.inj hF) rfl ?_
  refine z_if_ne (tgt := 48) C d_X12_readsAll_43 (by decide) hf (fun c43 hf => ?_) (fun c43 hf => ?_)
  · refine z_iinc (j := 1) (v := (v1 + 1)) (lv' := [(1, aI (v1 + 1)), (0, aR 20)]) C d_X12_readsAll_48 rfl rfl (by decide) rfl ?_
    exact z_sub [1, 0] rfl (t_X12_readsAll_51 C hr hk38 _ _ hf)
  · refine z_iconst (v := 0) C d_X12_readsAll_46 (by decide) ?_
    exact r_i C hr (by decide) d_X12_readsAll_47 hf
def f_X12_readsAll_38 : Nat → Int32 → Mem → Option (Int32 × Mem)
  | 0 => fun _ _ => none
  | n + 1 => f_X12_readsAll_38B (f_X12_readsAll_38 n)
theorem t_X12_readsAll_38 {X : MC} {Γ : GG} (C : CX X Γ cX12_readsAll 2 "TickPoolsModel" 5 113) (hr : X.2.2.2.2.2.2.2.2.1.sig.returnType = some .boolean) {q : Int32 × Mem} : ∀ (n : Nat) (v1 : Int32) (S : Mem) (hf : f_X12_readsAll_38 n v1 S = some q), ZZ X Γ 2 (QQ X Γ (some (aI q.1)) q.2) S 38 [(0, aR 20), (1, aI v1)] []
  | 0, _, _, hf => nomatch (show (none : Option (Int32 × Mem)) = some q from hf)
  | n + 1, v1, S, hf => t_X12_readsAll_38B C hr (t_X12_readsAll_38 C hr n) v1 S hf
def f_X12_readsAll_12B (k12 : Int32 → Mem → Option (Int32 × Mem)) (v1 : Int32) (S : Mem) : Option (Int32 × Mem) := (if 20 ≤ v1 then (f_X12_readsAll_38  100000 0 (sI S 20 9 0)) else (if inb v1 20 = true then (k12 (v1 + 1) (sI S 27 ((v1 : Int32).toNatClampNeg) 0)) else none))
set_option maxRecDepth 20000 in
theorem t_X12_readsAll_12B {X : MC} {Γ : GG} (C : CX X Γ cX12_readsAll 2 "TickPoolsModel" 5 113) (hr : X.2.2.2.2.2.2.2.2.1.sig.returnType = some .boolean) {k12 : Int32 → Mem → Option (Int32 × Mem)} {q : Int32 × Mem} (hk12 : ∀ (v1 : Int32) (S : Mem), k12 v1 S = some q → ZZ X Γ 2 (QQ X Γ (some (aI q.1)) q.2) S 12 [(0, aR 20), (1, aI v1)] []) (v1 : Int32) (S : Mem) (hf : f_X12_readsAll_12B k12 v1 S = some q) : ZZ X Γ 2 (QQ X Γ (some (aI q.1)) q.2) S 12 [(0, aR 20), (1, aI v1)] [] := by
  unfold f_X12_readsAll_12B at hf
  refine z_iload_n (j := 1) C d_X12_readsAll_12 rfl ?_
  refine z_bipush (v := 20) C d_X12_readsAll_13 (by decide) ?_
  refine z_icmp_ge (tgt := 31) C d_X12_readsAll_15 (by decide) hf (fun c15 hf => ?_) (fun c15 hf => ?_)
  · refine z_aload_n (j := 0) C d_X12_readsAll_31 rfl ?_
    refine z_iconst (v := 0) C d_X12_readsAll_32 (by decide) ?_
    refine zp_X12_at C rfl tw_1220 d_X12_readsAll_33 ?_
    refine z_iconst (v := 0) C d_X12_readsAll_36 (by decide) ?_
    refine z_istore_n (lv' := [(1, aI 0), (0, aR 20)]) C d_X12_readsAll_37 (by decide) rfl ?_
    exact z_sub [1, 0] rfl (t_X12_readsAll_38 C hr  100000 _ _ hf)
  · refine z_aload_n (j := 0) C d_X12_readsAll_18 rfl ?_
    refine zg_X12_readPurse C rfl tw_1239 d_X12_readsAll_19 ?_
    refine z_iload_n (j := 1) C d_X12_readsAll_22 rfl ?_
    refine z_iconst (v := 0) C d_X12_readsAll_23 (by decide) ?_
    obtain ⟨hi24_0, hf⟩ := gd hf
    refine z_iast C rfl hi24_0 d_X12_readsAll_24 ?_
    refine z_iinc (j := 1) (v := (v1 + 1)) (lv' := [(1, aI (v1 + 1)), (0, aR 20)]) C d_X12_readsAll_25 rfl rfl (by decide) rfl ?_
    refine z_goto (tgt := 12) C d_X12_readsAll_28 (by decide) ?_
    exact z_sub [1, 0] rfl (hk12 _ _ hf)
def f_X12_readsAll_12 : Nat → Int32 → Mem → Option (Int32 × Mem)
  | 0 => fun _ _ => none
  | n + 1 => f_X12_readsAll_12B (f_X12_readsAll_12 n)
theorem t_X12_readsAll_12 {X : MC} {Γ : GG} (C : CX X Γ cX12_readsAll 2 "TickPoolsModel" 5 113) (hr : X.2.2.2.2.2.2.2.2.1.sig.returnType = some .boolean) {q : Int32 × Mem} : ∀ (n : Nat) (v1 : Int32) (S : Mem) (hf : f_X12_readsAll_12 n v1 S = some q), ZZ X Γ 2 (QQ X Γ (some (aI q.1)) q.2) S 12 [(0, aR 20), (1, aI v1)] []
  | 0, _, _, hf => nomatch (show (none : Option (Int32 × Mem)) = some q from hf)
  | n + 1, v1, S, hf => t_X12_readsAll_12B C hr (t_X12_readsAll_12 C hr n) v1 S hf
/-- TickPoolsModel.readsAll()Z -/
def f_X12_readsAll (S : Mem) : Option (Int32 × Mem) := (f_X12_readsAll_12  100000 0 (sI (sI S 20 24 0) 20 26 0))
set_option maxRecDepth 20000 in
theorem c_X12_readsAll {l : Launch} {Γ : GG} (hI : Inj Γ) {S : Mem} {q : Int32 × Mem} (hf : f_X12_readsAll S = some q) : MM l Γ yX12_readsAll cX12_readsAll 2 (some .boolean) 5 113 [aR 20] S (some (aI q.1)) q.2 := by
  refine met_of hI "TickPoolsModel" rfl (by decide +kernel) (Nat.le_of_ble_eq_true rfl) (fun X hX C hr => ?_)
  unfold f_X12_readsAll at hf
  show ZZ X Γ 2 _ S 0 [(0, aR 20)] []
  refine z_aload_n (j := 0) C d_X12_readsAll_0 rfl ?_
  refine z_iconst (v := 0) C d_X12_readsAll_1 (by decide) ?_
  refine zp_X12_readThings C rfl tw_1235 d_X12_readsAll_2 ?_
  refine z_aload_n (j := 0) C d_X12_readsAll_5 rfl ?_
  refine z_iconst (v := 0) C d_X12_readsAll_6 (by decide) ?_
  refine zp_X12_readPools C rfl tw_1237 d_X12_readsAll_7 ?_
  refine z_iconst (v := 0) C d_X12_readsAll_10 (by decide) ?_
  refine z_istore_n (lv' := [(1, aI 0), (0, aR 20)]) C d_X12_readsAll_11 (by decide) rfl ?_
  exact z_sub [1, 0] rfl (t_X12_readsAll_12 C hr  100000 _ _ hf)
theorem d_X12_begins_0 : decode cX12_begins 0 = .ok (.aload_n 0, 1) := by decide +kernel
theorem d_X12_begins_1 : decode cX12_begins 1 = .ok (.aload_n 0, 1) := by decide +kernel
theorem d_X12_begins_2 : decode cX12_begins 2 = .ok (.getfield 172, 3) := by decide +kernel
theorem d_X12_begins_5 : decode cX12_begins 5 = .ok (.putfield 127, 3) := by decide +kernel
theorem d_X12_begins_8 : decode cX12_begins 8 = .ok (.aload_n 0, 1) := by decide +kernel
theorem d_X12_begins_9 : decode cX12_begins 9 = .ok (.aload_n 0, 1) := by decide +kernel
theorem d_X12_begins_10 : decode cX12_begins 10 = .ok (.getfield 181, 3) := by decide +kernel
theorem d_X12_begins_13 : decode cX12_begins 13 = .ok (.putfield 124, 3) := by decide +kernel
theorem d_X12_begins_16 : decode cX12_begins 16 = .ok (.aload_n 0, 1) := by decide +kernel
theorem d_X12_begins_17 : decode cX12_begins 17 = .ok (.aload_n 0, 1) := by decide +kernel
theorem d_X12_begins_18 : decode cX12_begins 18 = .ok (.getfield 184, 3) := by decide +kernel
theorem d_X12_begins_21 : decode cX12_begins 21 = .ok (.putfield 120, 3) := by decide +kernel
theorem d_X12_begins_24 : decode cX12_begins 24 = .ok (.iconst 0, 1) := by decide +kernel
theorem d_X12_begins_25 : decode cX12_begins 25 = .ok (.istore_n 1, 1) := by decide +kernel
theorem d_X12_begins_26 : decode cX12_begins 26 = .ok (.iload_n 1, 1) := by decide +kernel
theorem d_X12_begins_27 : decode cX12_begins 27 = .ok (.sipush 258, 3) := by decide +kernel
theorem d_X12_begins_30 : decode cX12_begins 30 = .ok (.if_icmp .ge 16, 3) := by decide +kernel
theorem d_X12_begins_33 : decode cX12_begins 33 = .ok (.aload_n 0, 1) := by decide +kernel
theorem d_X12_begins_34 : decode cX12_begins 34 = .ok (.getfield 17, 3) := by decide +kernel
theorem d_X12_begins_37 : decode cX12_begins 37 = .ok (.iload_n 1, 1) := by decide +kernel
theorem d_X12_begins_38 : decode cX12_begins 38 = .ok (.lconst 0, 1) := by decide +kernel
theorem d_X12_begins_39 : decode cX12_begins 39 = .ok (.lastore, 1) := by decide +kernel
theorem d_X12_begins_40 : decode cX12_begins 40 = .ok (.iinc 1 1, 3) := by decide +kernel
theorem d_X12_begins_43 : decode cX12_begins 43 = .ok (.goto (-17), 3) := by decide +kernel
theorem d_X12_begins_46 : decode cX12_begins 46 = .ok (.iconst 0, 1) := by decide +kernel
theorem d_X12_begins_47 : decode cX12_begins 47 = .ok (.istore_n 1, 1) := by decide +kernel
theorem d_X12_begins_48 : decode cX12_begins 48 = .ok (.iload_n 1, 1) := by decide +kernel
theorem d_X12_begins_49 : decode cX12_begins 49 = .ok (.bipush 20, 2) := by decide +kernel
theorem d_X12_begins_51 : decode cX12_begins 51 = .ok (.if_icmp .ge 24, 3) := by decide +kernel
theorem d_X12_begins_54 : decode cX12_begins 54 = .ok (.aload_n 0, 1) := by decide +kernel
theorem d_X12_begins_55 : decode cX12_begins 55 = .ok (.getfield 17, 3) := by decide +kernel
theorem d_X12_begins_58 : decode cX12_begins 58 = .ok (.iconst 2, 1) := by decide +kernel
theorem d_X12_begins_59 : decode cX12_begins 59 = .ok (.iload_n 1, 1) := by decide +kernel
theorem d_X12_begins_60 : decode cX12_begins 60 = .ok (.iadd, 1) := by decide +kernel
theorem d_X12_begins_61 : decode cX12_begins 61 = .ok (.aload_n 0, 1) := by decide +kernel
theorem d_X12_begins_62 : decode cX12_begins 62 = .ok (.getfield 71, 3) := by decide +kernel
theorem d_X12_begins_65 : decode cX12_begins 65 = .ok (.iload_n 1, 1) := by decide +kernel
theorem d_X12_begins_66 : decode cX12_begins 66 = .ok (.iaload, 1) := by decide +kernel
theorem d_X12_begins_67 : decode cX12_begins 67 = .ok (.i2l, 1) := by decide +kernel
theorem d_X12_begins_68 : decode cX12_begins 68 = .ok (.lastore, 1) := by decide +kernel
theorem d_X12_begins_69 : decode cX12_begins 69 = .ok (.iinc 1 1, 3) := by decide +kernel
theorem d_X12_begins_72 : decode cX12_begins 72 = .ok (.goto (-24), 3) := by decide +kernel
theorem d_X12_begins_75 : decode cX12_begins 75 = .ok (.iconst 0, 1) := by decide +kernel
theorem d_X12_begins_76 : decode cX12_begins 76 = .ok (.istore_n 1, 1) := by decide +kernel
theorem d_X12_begins_77 : decode cX12_begins 77 = .ok (.iload_n 1, 1) := by decide +kernel
theorem d_X12_begins_78 : decode cX12_begins 78 = .ok (.aload_n 0, 1) := by decide +kernel
theorem d_X12_begins_79 : decode cX12_begins 79 = .ok (.getfield 120, 3) := by decide +kernel
theorem d_X12_begins_82 : decode cX12_begins 82 = .ok (.if_icmp .ge 142, 3) := by decide +kernel
theorem d_X12_begins_85 : decode cX12_begins 85 = .ok (.iconst 0, 1) := by decide +kernel
theorem d_X12_begins_86 : decode cX12_begins 86 = .ok (.istore_n 2, 1) := by decide +kernel
theorem d_X12_begins_87 : decode cX12_begins 87 = .ok (.iload_n 2, 1) := by decide +kernel
theorem d_X12_begins_88 : decode cX12_begins 88 = .ok (.iconst 5, 1) := by decide +kernel
theorem d_X12_begins_89 : decode cX12_begins 89 = .ok (.if_icmp .ge 30, 3) := by decide +kernel
theorem d_X12_begins_92 : decode cX12_begins 92 = .ok (.aload_n 0, 1) := by decide +kernel
theorem d_X12_begins_93 : decode cX12_begins 93 = .ok (.getfield 13, 3) := by decide +kernel
theorem d_X12_begins_96 : decode cX12_begins 96 = .ok (.iconst 5, 1) := by decide +kernel
theorem d_X12_begins_97 : decode cX12_begins 97 = .ok (.iload_n 1, 1) := by decide +kernel
theorem d_X12_begins_98 : decode cX12_begins 98 = .ok (.imul, 1) := by decide +kernel
theorem d_X12_begins_99 : decode cX12_begins 99 = .ok (.iload_n 2, 1) := by decide +kernel
theorem d_X12_begins_100 : decode cX12_begins 100 = .ok (.iadd, 1) := by decide +kernel
theorem d_X12_begins_101 : decode cX12_begins 101 = .ok (.aload_n 0, 1) := by decide +kernel
theorem d_X12_begins_102 : decode cX12_begins 102 = .ok (.getfield 68, 3) := by decide +kernel
theorem d_X12_begins_105 : decode cX12_begins 105 = .ok (.bipush 7, 2) := by decide +kernel
theorem d_X12_begins_107 : decode cX12_begins 107 = .ok (.iload_n 1, 1) := by decide +kernel
theorem d_X12_begins_108 : decode cX12_begins 108 = .ok (.imul, 1) := by decide +kernel
theorem d_X12_begins_109 : decode cX12_begins 109 = .ok (.iload_n 2, 1) := by decide +kernel
theorem d_X12_begins_110 : decode cX12_begins 110 = .ok (.iadd, 1) := by decide +kernel
theorem d_X12_begins_111 : decode cX12_begins 111 = .ok (.iaload, 1) := by decide +kernel
theorem d_X12_begins_112 : decode cX12_begins 112 = .ok (.iastore, 1) := by decide +kernel
theorem d_X12_begins_113 : decode cX12_begins 113 = .ok (.iinc 2 1, 3) := by decide +kernel
theorem d_X12_begins_116 : decode cX12_begins 116 = .ok (.goto (-29), 3) := by decide +kernel
theorem d_X12_begins_119 : decode cX12_begins 119 = .ok (.ldc2_w 104, 3) := by decide +kernel
theorem d_X12_begins_122 : decode cX12_begins 122 = .ok (.aload_n 0, 1) := by decide +kernel
theorem d_X12_begins_123 : decode cX12_begins 123 = .ok (.getfield 68, 3) := by decide +kernel
theorem d_X12_begins_126 : decode cX12_begins 126 = .ok (.bipush 7, 2) := by decide +kernel
theorem d_X12_begins_128 : decode cX12_begins 128 = .ok (.iload_n 1, 1) := by decide +kernel
theorem d_X12_begins_129 : decode cX12_begins 129 = .ok (.imul, 1) := by decide +kernel
theorem d_X12_begins_130 : decode cX12_begins 130 = .ok (.iconst 5, 1) := by decide +kernel
theorem d_X12_begins_131 : decode cX12_begins 131 = .ok (.iadd, 1) := by decide +kernel
theorem d_X12_begins_132 : decode cX12_begins 132 = .ok (.iaload, 1) := by decide +kernel
theorem d_X12_begins_133 : decode cX12_begins 133 = .ok (.i2l, 1) := by decide +kernel
theorem d_X12_begins_134 : decode cX12_begins 134 = .ok (.lmul, 1) := by decide +kernel
theorem d_X12_begins_135 : decode cX12_begins 135 = .ok (.aload_n 0, 1) := by decide +kernel
theorem d_X12_begins_136 : decode cX12_begins 136 = .ok (.getfield 68, 3) := by decide +kernel
theorem d_X12_begins_139 : decode cX12_begins 139 = .ok (.bipush 7, 2) := by decide +kernel
theorem d_X12_begins_141 : decode cX12_begins 141 = .ok (.iload_n 1, 1) := by decide +kernel
theorem d_X12_begins_142 : decode cX12_begins 142 = .ok (.imul, 1) := by decide +kernel
theorem d_X12_begins_143 : decode cX12_begins 143 = .ok (.bipush 6, 2) := by decide +kernel
theorem d_X12_begins_145 : decode cX12_begins 145 = .ok (.iadd, 1) := by decide +kernel
theorem d_X12_begins_146 : decode cX12_begins 146 = .ok (.iaload, 1) := by decide +kernel
theorem d_X12_begins_147 : decode cX12_begins 147 = .ok (.i2l, 1) := by decide +kernel
theorem d_X12_begins_148 : decode cX12_begins 148 = .ok (.ldiv, 1) := by decide +kernel
theorem d_X12_begins_149 : decode cX12_begins 149 = .ok (.invokestatic 106, 3) := by decide +kernel
theorem d_X12_begins_152 : decode cX12_begins 152 = .ok (.lstore_n 2, 1) := by decide +kernel
theorem d_X12_begins_153 : decode cX12_begins 153 = .ok (.lload_n 2, 1) := by decide +kernel
theorem d_X12_begins_154 : decode cX12_begins 154 = .ok (.aload_n 0, 1) := by decide +kernel
theorem d_X12_begins_155 : decode cX12_begins 155 = .ok (.getfield 7, 3) := by decide +kernel
theorem d_X12_begins_158 : decode cX12_begins 158 = .ok (.iconst 0, 1) := by decide +kernel
theorem d_X12_begins_159 : decode cX12_begins 159 = .ok (.laload, 1) := by decide +kernel
theorem d_X12_begins_160 : decode cX12_begins 160 = .ok (.lcmp, 1) := by decide +kernel
theorem d_X12_begins_161 : decode cX12_begins 161 = .ok (.ifCond .ge 10, 3) := by decide +kernel
theorem d_X12_begins_164 : decode cX12_begins 164 = .ok (.aload_n 0, 1) := by decide +kernel
theorem d_X12_begins_165 : decode cX12_begins 165 = .ok (.getfield 7, 3) := by decide +kernel
theorem d_X12_begins_168 : decode cX12_begins 168 = .ok (.iconst 0, 1) := by decide +kernel
theorem d_X12_begins_169 : decode cX12_begins 169 = .ok (.laload, 1) := by decide +kernel
theorem d_X12_begins_170 : decode cX12_begins 170 = .ok (.lstore_n 2, 1) := by decide +kernel
theorem d_X12_begins_171 : decode cX12_begins 171 = .ok (.lload_n 2, 1) := by decide +kernel
theorem d_X12_begins_172 : decode cX12_begins 172 = .ok (.aload_n 0, 1) := by decide +kernel
theorem d_X12_begins_173 : decode cX12_begins 173 = .ok (.getfield 7, 3) := by decide +kernel
theorem d_X12_begins_176 : decode cX12_begins 176 = .ok (.bipush 40, 2) := by decide +kernel
theorem d_X12_begins_178 : decode cX12_begins 178 = .ok (.laload, 1) := by decide +kernel
theorem d_X12_begins_179 : decode cX12_begins 179 = .ok (.lcmp, 1) := by decide +kernel
theorem d_X12_begins_180 : decode cX12_begins 180 = .ok (.ifCond .le 11, 3) := by decide +kernel
theorem d_X12_begins_183 : decode cX12_begins 183 = .ok (.aload_n 0, 1) := by decide +kernel
theorem d_X12_begins_184 : decode cX12_begins 184 = .ok (.getfield 7, 3) := by decide +kernel
theorem d_X12_begins_187 : decode cX12_begins 187 = .ok (.bipush 40, 2) := by decide +kernel
theorem d_X12_begins_189 : decode cX12_begins 189 = .ok (.laload, 1) := by decide +kernel
theorem d_X12_begins_190 : decode cX12_begins 190 = .ok (.lstore_n 2, 1) := by decide +kernel
theorem d_X12_begins_191 : decode cX12_begins 191 = .ok (.aload_n 0, 1) := by decide +kernel
theorem d_X12_begins_192 : decode cX12_begins 192 = .ok (.iload_n 1, 1) := by decide +kernel
theorem d_X12_begins_193 : decode cX12_begins 193 = .ok (.iconst 0, 1) := by decide +kernel
theorem d_X12_begins_194 : decode cX12_begins 194 = .ok (.lload_n 2, 1) := by decide +kernel
theorem d_X12_begins_195 : decode cX12_begins 195 = .ok (.invokevirtual 208, 3) := by decide +kernel
theorem d_X12_begins_198 : decode cX12_begins 198 = .ok (.aload_n 0, 1) := by decide +kernel
theorem d_X12_begins_199 : decode cX12_begins 199 = .ok (.iload_n 1, 1) := by decide +kernel
theorem d_X12_begins_200 : decode cX12_begins 200 = .ok (.iconst 1, 1) := by decide +kernel
theorem d_X12_begins_201 : decode cX12_begins 201 = .ok (.aload_n 0, 1) := by decide +kernel
theorem d_X12_begins_202 : decode cX12_begins 202 = .ok (.lload_n 2, 1) := by decide +kernel
theorem d_X12_begins_203 : decode cX12_begins 203 = .ok (.invokevirtual 212, 3) := by decide +kernel
theorem d_X12_begins_206 : decode cX12_begins 206 = .ok (.i2l, 1) := by decide +kernel
theorem d_X12_begins_207 : decode cX12_begins 207 = .ok (.invokevirtual 208, 3) := by decide +kernel
theorem d_X12_begins_210 : decode cX12_begins 210 = .ok (.aload_n 0, 1) := by decide +kernel
theorem d_X12_begins_211 : decode cX12_begins 211 = .ok (.iload_n 1, 1) := by decide +kernel
theorem d_X12_begins_212 : decode cX12_begins 212 = .ok (.bipush 6, 2) := by decide +kernel
theorem d_X12_begins_214 : decode cX12_begins 214 = .ok (.lconst 1, 1) := by decide +kernel
theorem d_X12_begins_215 : decode cX12_begins 215 = .ok (.invokevirtual 208, 3) := by decide +kernel
theorem d_X12_begins_218 : decode cX12_begins 218 = .ok (.iinc 1 1, 3) := by decide +kernel
theorem d_X12_begins_221 : decode cX12_begins 221 = .ok (.goto (-144), 3) := by decide +kernel
theorem d_X12_begins_224 : decode cX12_begins 224 = .ok (.return_, 1) := by decide +kernel
def f_X12_begins_191 (k77 : Int32 → Mem → Option (Unit × Mem)) (v1 : Int32) (v2 : Int64) (S : Mem) : Option (Unit × Mem) := ((f_X12_setPool v1 0 v2 S).bind fun q195 => ((f_X12_zoneOf v2 q195.2).bind fun q203 => ((f_X12_setPool v1 1 (q203.1.toInt64) q203.2).bind fun q207 => ((f_X12_setPool v1 6 1 q207.2).bind fun q215 => (k77 (v1 + 1) q215.2)))))
set_option maxRecDepth 20000 in
theorem t_X12_begins_191 {X : MC} {Γ : GG} (C : CX X Γ cX12_begins 4 "TickPoolsModel" 1 25) (hr : X.2.2.2.2.2.2.2.2.1.sig.returnType = none) {k77 : Int32 → Mem → Option (Unit × Mem)} {q : Unit × Mem} (hk77 : ∀ (v1 : Int32) (S : Mem), k77 v1 S = some q → ZZ X Γ 4 (QQ X Γ none q.2) S 77 [(0, aR 20), (1, aI v1)] []) (v1 : Int32) (v2 : Int64) (S : Mem) (hf : f_X12_begins_191 k77 v1 v2 S = some q) : ZZ X Γ 4 (QQ X Γ none q.2) S 191 [(0, aR 20), (1, aI v1), (2, aJ v2)] [] := by
  unfold f_X12_begins_191 at hf
  refine z_aload_n (j := 0) C d_X12_begins_191 rfl ?_
  refine z_iload_n (j := 1) C d_X12_begins_192 rfl ?_
  refine z_iconst (v := 0) C d_X12_begins_193 (by decide) ?_
  refine z_lload_n (j := 2) C d_X12_begins_194 rfl ?_
  obtain ⟨q195, hF, hf⟩ := bd hf
  refine z_callV0 (rest := []) C [aI v1, aI 0, aJ v2] rfl (by decide) rfl rfl k_X12_setPool tw_1451 ⟨by decide, by decide⟩ (Nat.le_of_ble_eq_true rfl) d_X12_begins_195 (c_X12_setPool C.inj hF) rfl ?_
  refine z_aload_n (j := 0) C d_X12_begins_198 rfl ?_
  refine z_iload_n (j := 1) C d_X12_begins_199 rfl ?_
  refine z_iconst (v := 1) C d_X12_begins_200 (by decide) ?_
  refine z_aload_n (j := 0) C d_X12_begins_201 rfl ?_
  refine z_lload_n (j := 2) C d_X12_begins_202 rfl ?_
  obtain ⟨q203, hF, hf⟩ := bd hf
  refine z_callV1 (rest := [aI 1, aI v1, aR 20]) C [aJ v2] rfl (by decide) rfl rfl k_X12_zoneOf tw_1455 ⟨by decide, by decide⟩ (Nat.le_of_ble_eq_true rfl) d_X12_begins_203 (c_X12_zoneOf C.inj hF) rfl ?_
  refine z_i2l C d_X12_begins_206 ?_
  obtain ⟨q207, hF, hf⟩ := bd hf
  refine z_callV0 (rest := []) C [aI v1, aI 1, aJ (q203.1.toInt64)] rfl (by decide) rfl rfl k_X12_setPool tw_1451 ⟨by decide, by decide⟩ (Nat.le_of_ble_eq_true rfl) d_X12_begins_207 (c_X12_setPool C.inj hF) rfl ?_
  refine z_aload_n (j := 0) C d_X12_begins_210 rfl ?_
  refine z_iload_n (j := 1) C d_X12_begins_211 rfl ?_
  refine z_bipush (v := 6) C d_X12_begins_212 (by decide) ?_
  refine z_lconst (v := 1) C d_X12_begins_214 (by decide) ?_
  obtain ⟨q215, hF, hf⟩ := bd hf
  refine z_callV0 (rest := []) C [aI v1, aI 6, aJ 1] rfl (by decide) rfl rfl k_X12_setPool tw_1451 ⟨by decide, by decide⟩ (Nat.le_of_ble_eq_true rfl) d_X12_begins_215 (c_X12_setPool C.inj hF) rfl ?_
  refine z_iinc (j := 1) (v := (v1 + 1)) (lv' := [(1, aI (v1 + 1)), (0, aR 20), (2, aJ v2)]) C d_X12_begins_218 rfl rfl (by decide) rfl ?_
  refine z_goto (tgt := 77) C d_X12_begins_221 (by decide) ?_
  exact z_sub [1, 0] rfl (hk77 _ _ hf)
def f_X12_begins_171 (k77 : Int32 → Mem → Option (Unit × Mem)) (v1 : Int32) (v2 : Int64) (S : Mem) : Option (Unit × Mem) := (if v2 ≤ (gL S 21 ((40 : Int32).toNatClampNeg)) then (f_X12_begins_191 k77 v1 v2 S) else (f_X12_begins_191 k77 v1 (gL S 21 ((40 : Int32).toNatClampNeg)) S))
set_option maxRecDepth 20000 in
theorem t_X12_begins_171 {X : MC} {Γ : GG} (C : CX X Γ cX12_begins 4 "TickPoolsModel" 1 25) (hr : X.2.2.2.2.2.2.2.2.1.sig.returnType = none) {k77 : Int32 → Mem → Option (Unit × Mem)} {q : Unit × Mem} (hk77 : ∀ (v1 : Int32) (S : Mem), k77 v1 S = some q → ZZ X Γ 4 (QQ X Γ none q.2) S 77 [(0, aR 20), (1, aI v1)] []) (v1 : Int32) (v2 : Int64) (S : Mem) (hf : f_X12_begins_171 k77 v1 v2 S = some q) : ZZ X Γ 4 (QQ X Γ none q.2) S 171 [(0, aR 20), (1, aI v1), (2, aJ v2)] [] := by
  unfold f_X12_begins_171 at hf
  refine z_lload_n (j := 2) C d_X12_begins_171 rfl ?_
  refine z_aload_n (j := 0) C d_X12_begins_172 rfl ?_
  refine zg_X12_rootOf C rfl tw_1211 d_X12_begins_173 ?_
  refine z_bipush (v := 40) C d_X12_begins_176 (by decide) ?_
  refine z_lald C rfl (by decide) d_X12_begins_178 ?_
  refine z_lle (tgt := 191) C d_X12_begins_179 d_X12_begins_180 (by decide) hf (fun c179 hf => ?_) (fun c179 hf => ?_)
  · exact z_sub [0, 1, 2] rfl (t_X12_begins_191 C hr hk77 _ _ _ hf)
  · refine z_aload_n (j := 0) C d_X12_begins_183 rfl ?_
    refine zg_X12_rootOf C rfl tw_1211 d_X12_begins_184 ?_
    refine z_bipush (v := 40) C d_X12_begins_187 (by decide) ?_
    refine z_lald C rfl (by decide) d_X12_begins_189 ?_
    refine z_lstore_n (lv' := [(2, aJ (gL S 21 ((40 : Int32).toNatClampNeg))), (0, aR 20), (1, aI v1)]) C d_X12_begins_190 (by decide) rfl ?_
    exact z_sub [1, 2, 0] rfl (t_X12_begins_191 C hr hk77 _ _ _ hf)
def f_X12_begins_87B (k77 : Int32 → Mem → Option (Unit × Mem)) (k87 : Int32 → Int32 → Mem → Option (Unit × Mem)) (v1 : Int32) (v2 : Int32) (S : Mem) : Option (Unit × Mem) := (if 5 ≤ v2 then (if inb ((7 * v1) + 5) 35 = true then (if inb ((7 * v1) + 6) 35 = true then (if (((gI S 26 ((((7 * v1) + 6) : Int32).toNatClampNeg)) : Int32).toInt64) = 0 then none else ((f_X12_rootOfNumber ((10000000000 * (((gI S 26 ((((7 * v1) + 5) : Int32).toNatClampNeg)) : Int32).toInt64)) / (((gI S 26 ((((7 * v1) + 6) : Int32).toNatClampNeg)) : Int32).toInt64)) S).bind fun q149 => (if (gL q149.2 21 ((0 : Int32).toNatClampNeg)) ≤ q149.1 then (f_X12_begins_171 k77 v1 q149.1 q149.2) else (f_X12_begins_171 k77 v1 (gL q149.2 21 ((0 : Int32).toNatClampNeg)) q149.2)))) else none) else none) else (if inb ((7 * v1) + v2) 35 = true then (if inb ((5 * v1) + v2) 25 = true then (k87 v1 (v2 + 1) (sI S 22 ((((5 * v1) + v2) : Int32).toNatClampNeg) (gI S 26 ((((7 * v1) + v2) : Int32).toNatClampNeg)))) else none) else none))
set_option maxRecDepth 20000 in
theorem t_X12_begins_87B {X : MC} {Γ : GG} (C : CX X Γ cX12_begins 4 "TickPoolsModel" 1 25) (hr : X.2.2.2.2.2.2.2.2.1.sig.returnType = none) {k77 : Int32 → Mem → Option (Unit × Mem)} {k87 : Int32 → Int32 → Mem → Option (Unit × Mem)} {q : Unit × Mem} (hk77 : ∀ (v1 : Int32) (S : Mem), k77 v1 S = some q → ZZ X Γ 4 (QQ X Γ none q.2) S 77 [(0, aR 20), (1, aI v1)] []) (hk87 : ∀ (v1 : Int32) (v2 : Int32) (S : Mem), k87 v1 v2 S = some q → ZZ X Γ 4 (QQ X Γ none q.2) S 87 [(0, aR 20), (1, aI v1), (2, aI v2)] []) (v1 : Int32) (v2 : Int32) (S : Mem) (hf : f_X12_begins_87B k77 k87 v1 v2 S = some q) : ZZ X Γ 4 (QQ X Γ none q.2) S 87 [(0, aR 20), (1, aI v1), (2, aI v2)] [] := by
  unfold f_X12_begins_87B at hf
  refine z_iload_n (j := 2) C d_X12_begins_87 rfl ?_
  refine z_iconst (v := 5) C d_X12_begins_88 (by decide) ?_
  refine z_icmp_ge (tgt := 119) C d_X12_begins_89 (by decide) hf (fun c89 hf => ?_) (fun c89 hf => ?_)
  · refine z_ldc2 (v := 10000000000) C tw_1204 d_X12_begins_119 ?_
    refine z_aload_n (j := 0) C d_X12_begins_122 rfl ?_
    refine zg_X12_readPool C rfl tw_1238 d_X12_begins_123 ?_
    refine z_bipush (v := 7) C d_X12_begins_126 (by decide) ?_
    refine z_iload_n (j := 1) C d_X12_begins_128 rfl ?_
    refine z_imul C d_X12_begins_129 ?_
    refine z_iconst (v := 5) C d_X12_begins_130 (by decide) ?_
    refine z_iadd C d_X12_begins_131 ?_
    obtain ⟨hi132_0, hf⟩ := gd hf
    refine z_iald C rfl hi132_0 d_X12_begins_132 ?_
    refine z_i2l C d_X12_begins_133 ?_
    refine z_lmul C d_X12_begins_134 ?_
    refine z_aload_n (j := 0) C d_X12_begins_135 rfl ?_
    refine zg_X12_readPool C rfl tw_1238 d_X12_begins_136 ?_
    refine z_bipush (v := 7) C d_X12_begins_139 (by decide) ?_
    refine z_iload_n (j := 1) C d_X12_begins_141 rfl ?_
    refine z_imul C d_X12_begins_142 ?_
    refine z_bipush (v := 6) C d_X12_begins_143 (by decide) ?_
    refine z_iadd C d_X12_begins_145 ?_
    obtain ⟨hi146_1, hf⟩ := gd hf
    refine z_iald C rfl hi146_1 d_X12_begins_146 ?_
    refine z_i2l C d_X12_begins_147 ?_
    obtain ⟨hz148, hf⟩ := gdn hf
    refine z_ldiv C d_X12_begins_148 hz148 ?_
    obtain ⟨q149, hF, hf⟩ := bd hf
    refine z_callS1 (rest := []) C [aJ ((10000000000 * (((gI S 26 ((((7 * v1) + 5) : Int32).toNatClampNeg)) : Int32).toInt64)) / (((gI S 26 ((((7 * v1) + 6) : Int32).toNatClampNeg)) : Int32).toInt64))] k_X12_rootOfNumber tw_1205 ⟨by decide, by decide⟩ (Nat.le_of_ble_eq_true rfl) d_X12_begins_149 (c_X12_rootOfNumber C.inj hF) rfl ?_
    refine z_lstore_n (lv' := [(2, aJ q149.1), (0, aR 20), (1, aI v1)]) C d_X12_begins_152 (by decide) rfl ?_
    refine z_lload_n (j := 0) C d_X12_begins_153 rfl ?_
    refine z_aload_n (j := 1) C d_X12_begins_154 rfl ?_
    refine zg_X12_rootOf C rfl tw_1211 d_X12_begins_155 ?_
    refine z_iconst (v := 0) C d_X12_begins_158 (by decide) ?_
    refine z_lald C rfl (by decide) d_X12_begins_159 ?_
    refine z_lge (tgt := 171) C d_X12_begins_160 d_X12_begins_161 (by decide) hf (fun c160 hf => ?_) (fun c160 hf => ?_)
    · exact z_sub [1, 2, 0] rfl (t_X12_begins_171 C hr hk77 _ _ _ hf)
    · refine z_aload_n (j := 1) C d_X12_begins_164 rfl ?_
      refine zg_X12_rootOf C rfl tw_1211 d_X12_begins_165 ?_
      refine z_iconst (v := 0) C d_X12_begins_168 (by decide) ?_
      refine z_lald C rfl (by decide) d_X12_begins_169 ?_
      refine z_lstore_n (lv' := [(2, aJ (gL q149.2 21 ((0 : Int32).toNatClampNeg))), (0, aR 20), (1, aI v1)]) C d_X12_begins_170 (by decide) rfl ?_
      exact z_sub [1, 2, 0] rfl (t_X12_begins_171 C hr hk77 _ _ _ hf)
  · refine z_aload_n (j := 0) C d_X12_begins_92 rfl ?_
    refine zg_X12_told C rfl tw_1215 d_X12_begins_93 ?_
    refine z_iconst (v := 5) C d_X12_begins_96 (by decide) ?_
    refine z_iload_n (j := 1) C d_X12_begins_97 rfl ?_
    refine z_imul C d_X12_begins_98 ?_
    refine z_iload_n (j := 2) C d_X12_begins_99 rfl ?_
    refine z_iadd C d_X12_begins_100 ?_
    refine z_aload_n (j := 0) C d_X12_begins_101 rfl ?_
    refine zg_X12_readPool C rfl tw_1238 d_X12_begins_102 ?_
    refine z_bipush (v := 7) C d_X12_begins_105 (by decide) ?_
    refine z_iload_n (j := 1) C d_X12_begins_107 rfl ?_
    refine z_imul C d_X12_begins_108 ?_
    refine z_iload_n (j := 2) C d_X12_begins_109 rfl ?_
    refine z_iadd C d_X12_begins_110 ?_
    obtain ⟨hi111_0, hf⟩ := gd hf
    refine z_iald C rfl hi111_0 d_X12_begins_111 ?_
    obtain ⟨hi112_1, hf⟩ := gd hf
    refine z_iast C rfl hi112_1 d_X12_begins_112 ?_
    refine z_iinc (j := 2) (v := (v2 + 1)) (lv' := [(2, aI (v2 + 1)), (0, aR 20), (1, aI v1)]) C d_X12_begins_113 rfl rfl (by decide) rfl ?_
    refine z_goto (tgt := 87) C d_X12_begins_116 (by decide) ?_
    exact z_sub [1, 2, 0] rfl (hk87 _ _ _ hf)
def f_X12_begins_87 (k77 : Int32 → Mem → Option (Unit × Mem)) : Nat → Int32 → Int32 → Mem → Option (Unit × Mem)
  | 0 => fun _ _ _ => none
  | n + 1 => f_X12_begins_87B k77 (f_X12_begins_87 k77 n)
theorem t_X12_begins_87 {X : MC} {Γ : GG} (C : CX X Γ cX12_begins 4 "TickPoolsModel" 1 25) (hr : X.2.2.2.2.2.2.2.2.1.sig.returnType = none) {k77 : Int32 → Mem → Option (Unit × Mem)} {q : Unit × Mem} (hk77 : ∀ (v1 : Int32) (S : Mem), k77 v1 S = some q → ZZ X Γ 4 (QQ X Γ none q.2) S 77 [(0, aR 20), (1, aI v1)] []) : ∀ (n : Nat) (v1 : Int32) (v2 : Int32) (S : Mem) (hf : f_X12_begins_87 k77 n v1 v2 S = some q), ZZ X Γ 4 (QQ X Γ none q.2) S 87 [(0, aR 20), (1, aI v1), (2, aI v2)] []
  | 0, _, _, _, hf => nomatch (show (none : Option (Unit × Mem)) = some q from hf)
  | n + 1, v1, v2, S, hf => t_X12_begins_87B C hr hk77 (t_X12_begins_87 C hr hk77 n) v1 v2 S hf
def f_X12_begins_77B (k77 : Int32 → Mem → Option (Unit × Mem)) (v1 : Int32) (S : Mem) : Option (Unit × Mem) := (if (gI S 20 3) ≤ v1 then (some ((), S)) else (f_X12_begins_87 k77 100000 v1 0 S))
set_option maxRecDepth 20000 in
theorem t_X12_begins_77B {X : MC} {Γ : GG} (C : CX X Γ cX12_begins 4 "TickPoolsModel" 1 25) (hr : X.2.2.2.2.2.2.2.2.1.sig.returnType = none) {k77 : Int32 → Mem → Option (Unit × Mem)} {q : Unit × Mem} (hk77 : ∀ (v1 : Int32) (S : Mem), k77 v1 S = some q → ZZ X Γ 4 (QQ X Γ none q.2) S 77 [(0, aR 20), (1, aI v1)] []) (v1 : Int32) (S : Mem) (hf : f_X12_begins_77B k77 v1 S = some q) : ZZ X Γ 4 (QQ X Γ none q.2) S 77 [(0, aR 20), (1, aI v1)] [] := by
  unfold f_X12_begins_77B at hf
  refine z_iload_n (j := 1) C d_X12_begins_77 rfl ?_
  refine z_aload_n (j := 0) C d_X12_begins_78 rfl ?_
  refine zg_X12_pools C rfl tw_1214 d_X12_begins_79 ?_
  refine z_icmp_ge (tgt := 224) C d_X12_begins_82 (by decide) hf (fun c82 hf => ?_) (fun c82 hf => ?_)
  · exact r_v C hr d_X12_begins_224 hf
  · refine z_iconst (v := 0) C d_X12_begins_85 (by decide) ?_
    refine z_istore_n (lv' := [(2, aI 0), (0, aR 20), (1, aI v1)]) C d_X12_begins_86 (by decide) rfl ?_
    exact z_sub [1, 2, 0] rfl (t_X12_begins_87 C hr hk77 100000 _ _ _ hf)
def f_X12_begins_77 : Nat → Int32 → Mem → Option (Unit × Mem)
  | 0 => fun _ _ => none
  | n + 1 => f_X12_begins_77B (f_X12_begins_77 n)
theorem t_X12_begins_77 {X : MC} {Γ : GG} (C : CX X Γ cX12_begins 4 "TickPoolsModel" 1 25) (hr : X.2.2.2.2.2.2.2.2.1.sig.returnType = none) {q : Unit × Mem} : ∀ (n : Nat) (v1 : Int32) (S : Mem) (hf : f_X12_begins_77 n v1 S = some q), ZZ X Γ 4 (QQ X Γ none q.2) S 77 [(0, aR 20), (1, aI v1)] []
  | 0, _, _, hf => nomatch (show (none : Option (Unit × Mem)) = some q from hf)
  | n + 1, v1, S, hf => t_X12_begins_77B C hr (t_X12_begins_77 C hr n) v1 S hf
def f_X12_begins_48B (k48 : Int32 → Mem → Option (Unit × Mem)) (v1 : Int32) (S : Mem) : Option (Unit × Mem) := (if 20 ≤ v1 then (f_X12_begins_77  100000 0 S) else (if inb v1 20 = true then (if inb (2 + v1) 258 = true then (k48 (v1 + 1) (sL S 23 (((2 + v1) : Int32).toNatClampNeg) (((gI S 27 ((v1 : Int32).toNatClampNeg)) : Int32).toInt64))) else none) else none))
set_option maxRecDepth 20000 in
theorem t_X12_begins_48B {X : MC} {Γ : GG} (C : CX X Γ cX12_begins 4 "TickPoolsModel" 1 25) (hr : X.2.2.2.2.2.2.2.2.1.sig.returnType = none) {k48 : Int32 → Mem → Option (Unit × Mem)} {q : Unit × Mem} (hk48 : ∀ (v1 : Int32) (S : Mem), k48 v1 S = some q → ZZ X Γ 4 (QQ X Γ none q.2) S 48 [(0, aR 20), (1, aI v1)] []) (v1 : Int32) (S : Mem) (hf : f_X12_begins_48B k48 v1 S = some q) : ZZ X Γ 4 (QQ X Γ none q.2) S 48 [(0, aR 20), (1, aI v1)] [] := by
  unfold f_X12_begins_48B at hf
  refine z_iload_n (j := 1) C d_X12_begins_48 rfl ?_
  refine z_bipush (v := 20) C d_X12_begins_49 (by decide) ?_
  refine z_icmp_ge (tgt := 75) C d_X12_begins_51 (by decide) hf (fun c51 hf => ?_) (fun c51 hf => ?_)
  · refine z_iconst (v := 0) C d_X12_begins_75 (by decide) ?_
    refine z_istore_n (lv' := [(1, aI 0), (0, aR 20)]) C d_X12_begins_76 (by decide) rfl ?_
    exact z_sub [1, 0] rfl (t_X12_begins_77 C hr  100000 _ _ hf)
  · refine z_aload_n (j := 0) C d_X12_begins_54 rfl ?_
    refine zg_X12_now C rfl tw_1216 d_X12_begins_55 ?_
    refine z_iconst (v := 2) C d_X12_begins_58 (by decide) ?_
    refine z_iload_n (j := 1) C d_X12_begins_59 rfl ?_
    refine z_iadd C d_X12_begins_60 ?_
    refine z_aload_n (j := 0) C d_X12_begins_61 rfl ?_
    refine zg_X12_readPurse C rfl tw_1239 d_X12_begins_62 ?_
    refine z_iload_n (j := 1) C d_X12_begins_65 rfl ?_
    obtain ⟨hi66_0, hf⟩ := gd hf
    refine z_iald C rfl hi66_0 d_X12_begins_66 ?_
    refine z_i2l C d_X12_begins_67 ?_
    obtain ⟨hi68_1, hf⟩ := gd hf
    refine z_last C rfl hi68_1 d_X12_begins_68 ?_
    refine z_iinc (j := 1) (v := (v1 + 1)) (lv' := [(1, aI (v1 + 1)), (0, aR 20)]) C d_X12_begins_69 rfl rfl (by decide) rfl ?_
    refine z_goto (tgt := 48) C d_X12_begins_72 (by decide) ?_
    exact z_sub [1, 0] rfl (hk48 _ _ hf)
def f_X12_begins_48 : Nat → Int32 → Mem → Option (Unit × Mem)
  | 0 => fun _ _ => none
  | n + 1 => f_X12_begins_48B (f_X12_begins_48 n)
theorem t_X12_begins_48 {X : MC} {Γ : GG} (C : CX X Γ cX12_begins 4 "TickPoolsModel" 1 25) (hr : X.2.2.2.2.2.2.2.2.1.sig.returnType = none) {q : Unit × Mem} : ∀ (n : Nat) (v1 : Int32) (S : Mem) (hf : f_X12_begins_48 n v1 S = some q), ZZ X Γ 4 (QQ X Γ none q.2) S 48 [(0, aR 20), (1, aI v1)] []
  | 0, _, _, hf => nomatch (show (none : Option (Unit × Mem)) = some q from hf)
  | n + 1, v1, S, hf => t_X12_begins_48B C hr (t_X12_begins_48 C hr n) v1 S hf
def f_X12_begins_26B (k26 : Int32 → Mem → Option (Unit × Mem)) (v1 : Int32) (S : Mem) : Option (Unit × Mem) := (if 258 ≤ v1 then (f_X12_begins_48  100000 0 S) else (if inb v1 258 = true then (k26 (v1 + 1) (sL S 23 ((v1 : Int32).toNatClampNeg) 0)) else none))
set_option maxRecDepth 20000 in
theorem t_X12_begins_26B {X : MC} {Γ : GG} (C : CX X Γ cX12_begins 4 "TickPoolsModel" 1 25) (hr : X.2.2.2.2.2.2.2.2.1.sig.returnType = none) {k26 : Int32 → Mem → Option (Unit × Mem)} {q : Unit × Mem} (hk26 : ∀ (v1 : Int32) (S : Mem), k26 v1 S = some q → ZZ X Γ 4 (QQ X Γ none q.2) S 26 [(0, aR 20), (1, aI v1)] []) (v1 : Int32) (S : Mem) (hf : f_X12_begins_26B k26 v1 S = some q) : ZZ X Γ 4 (QQ X Γ none q.2) S 26 [(0, aR 20), (1, aI v1)] [] := by
  unfold f_X12_begins_26B at hf
  refine z_iload_n (j := 1) C d_X12_begins_26 rfl ?_
  refine z_sipush (v := 258) C d_X12_begins_27 (by decide) ?_
  refine z_icmp_ge (tgt := 46) C d_X12_begins_30 (by decide) hf (fun c30 hf => ?_) (fun c30 hf => ?_)
  · refine z_iconst (v := 0) C d_X12_begins_46 (by decide) ?_
    refine z_istore_n (lv' := [(1, aI 0), (0, aR 20)]) C d_X12_begins_47 (by decide) rfl ?_
    exact z_sub [1, 0] rfl (t_X12_begins_48 C hr  100000 _ _ hf)
  · refine z_aload_n (j := 0) C d_X12_begins_33 rfl ?_
    refine zg_X12_now C rfl tw_1216 d_X12_begins_34 ?_
    refine z_iload_n (j := 1) C d_X12_begins_37 rfl ?_
    refine z_lconst (v := 0) C d_X12_begins_38 (by decide) ?_
    obtain ⟨hi39_0, hf⟩ := gd hf
    refine z_last C rfl hi39_0 d_X12_begins_39 ?_
    refine z_iinc (j := 1) (v := (v1 + 1)) (lv' := [(1, aI (v1 + 1)), (0, aR 20)]) C d_X12_begins_40 rfl rfl (by decide) rfl ?_
    refine z_goto (tgt := 26) C d_X12_begins_43 (by decide) ?_
    exact z_sub [1, 0] rfl (hk26 _ _ hf)
def f_X12_begins_26 : Nat → Int32 → Mem → Option (Unit × Mem)
  | 0 => fun _ _ => none
  | n + 1 => f_X12_begins_26B (f_X12_begins_26 n)
theorem t_X12_begins_26 {X : MC} {Γ : GG} (C : CX X Γ cX12_begins 4 "TickPoolsModel" 1 25) (hr : X.2.2.2.2.2.2.2.2.1.sig.returnType = none) {q : Unit × Mem} : ∀ (n : Nat) (v1 : Int32) (S : Mem) (hf : f_X12_begins_26 n v1 S = some q), ZZ X Γ 4 (QQ X Γ none q.2) S 26 [(0, aR 20), (1, aI v1)] []
  | 0, _, _, hf => nomatch (show (none : Option (Unit × Mem)) = some q from hf)
  | n + 1, v1, S, hf => t_X12_begins_26B C hr (t_X12_begins_26 C hr n) v1 S hf
def f_X12_begins_24 (S : Mem) : Option (Unit × Mem) := (f_X12_begins_26  100000 0 S)
set_option maxRecDepth 20000 in
theorem t_X12_begins_24 {X : MC} {Γ : GG} (C : CX X Γ cX12_begins 4 "TickPoolsModel" 1 25) (hr : X.2.2.2.2.2.2.2.2.1.sig.returnType = none) {q : Unit × Mem} (S : Mem) (hf : f_X12_begins_24 S = some q) : ZZ X Γ 4 (QQ X Γ none q.2) S 24 [(0, aR 20)] [] := by
  unfold f_X12_begins_24 at hf
  refine z_iconst (v := 0) C d_X12_begins_24 (by decide) ?_
  refine z_istore_n (lv' := [(1, aI 0), (0, aR 20)]) C d_X12_begins_25 (by decide) rfl ?_
  exact z_sub [1, 0] rfl (t_X12_begins_26 C hr  100000 _ _ hf)
/-- TickPoolsModel.begins()V -/
def f_X12_begins (S : Mem) : Option (Unit × Mem) := (f_X12_begins_24  (sI (sI (sI S 20 1 (gI S 20 24)) 20 2 (gI (sI S 20 1 (gI S 20 24)) 20 25)) 20 3 (gI (sI (sI S 20 1 (gI S 20 24)) 20 2 (gI (sI S 20 1 (gI S 20 24)) 20 25)) 20 26)))
set_option maxRecDepth 20000 in
theorem c_X12_begins {l : Launch} {Γ : GG} (hI : Inj Γ) {S : Mem} {q : Unit × Mem} (hf : f_X12_begins S = some q) : MM l Γ yX12_begins cX12_begins 4 (none) 1 25 [aR 20] S none q.2 := by
  refine met_of hI "TickPoolsModel" rfl (by decide +kernel) (Nat.le_of_ble_eq_true rfl) (fun X hX C hr => ?_)
  unfold f_X12_begins at hf
  show ZZ X Γ 4 _ S 0 [(0, aR 20)] []
  refine z_aload_n (j := 0) C d_X12_begins_0 rfl ?_
  refine z_aload_n (j := 0) C d_X12_begins_1 rfl ?_
  refine zg_X12_readThings C rfl tw_1235 d_X12_begins_2 ?_
  refine zp_X12_things C rfl tw_1212 d_X12_begins_5 ?_
  refine z_aload_n (j := 0) C d_X12_begins_8 rfl ?_
  refine z_aload_n (j := 0) C d_X12_begins_9 rfl ?_
  refine zg_X12_readPeople C rfl tw_1236 d_X12_begins_10 ?_
  refine zp_X12_people C rfl tw_1213 d_X12_begins_13 ?_
  refine z_aload_n (j := 0) C d_X12_begins_16 rfl ?_
  refine z_aload_n (j := 0) C d_X12_begins_17 rfl ?_
  refine zg_X12_readPools C rfl tw_1237 d_X12_begins_18 ?_
  refine zp_X12_pools C rfl tw_1214 d_X12_begins_21 ?_
  exact z_sub [0] rfl (t_X12_begins_24 C hr  _ hf)
theorem d_X12_market_0 : decode cX12_market 0 = .ok (.aload_n 0, 1) := by decide +kernel
theorem d_X12_market_1 : decode cX12_market 1 = .ok (.invokevirtual 216, 3) := by decide +kernel
theorem d_X12_market_4 : decode cX12_market 4 = .ok (.istore_n 1, 1) := by decide +kernel
theorem d_X12_market_5 : decode cX12_market 5 = .ok (.aload_n 0, 1) := by decide +kernel
theorem d_X12_market_6 : decode cX12_market 6 = .ok (.iconst 0, 1) := by decide +kernel
theorem d_X12_market_7 : decode cX12_market 7 = .ok (.putfield 134, 3) := by decide +kernel
theorem d_X12_market_10 : decode cX12_market 10 = .ok (.iload_n 1, 1) := by decide +kernel
theorem d_X12_market_11 : decode cX12_market 11 = .ok (.ifCond .ne 11, 3) := by decide +kernel
theorem d_X12_market_14 : decode cX12_market 14 = .ok (.bipush (-2), 2) := by decide +kernel
theorem d_X12_market_16 : decode cX12_market 16 = .ok (.aload_n 0, 1) := by decide +kernel
theorem d_X12_market_17 : decode cX12_market 17 = .ok (.getfield 141, 3) := by decide +kernel
theorem d_X12_market_20 : decode cX12_market 20 = .ok (.isub, 1) := by decide +kernel
theorem d_X12_market_21 : decode cX12_market 21 = .ok (.ireturn, 1) := by decide +kernel
theorem d_X12_market_22 : decode cX12_market 22 = .ok (.aload_n 0, 1) := by decide +kernel
theorem d_X12_market_23 : decode cX12_market 23 = .ok (.invokevirtual 219, 3) := by decide +kernel
theorem d_X12_market_26 : decode cX12_market 26 = .ok (.aload_n 0, 1) := by decide +kernel
theorem d_X12_market_27 : decode cX12_market 27 = .ok (.getfield 120, 3) := by decide +kernel
theorem d_X12_market_30 : decode cX12_market 30 = .ok (.ireturn, 1) := by decide +kernel
/-- TickPoolsModel.market()I -/
def f_X12_market (S : Mem) : Option (Int32 × Mem) := ((f_X12_readsAll S).bind fun q1 => (if q1.1 = 0 then (some (((-2) - (gI (sI q1.2 20 8 0) 20 10)), (sI q1.2 20 8 0))) else ((f_X12_begins (sI q1.2 20 8 0)).bind fun q23 => (some ((gI q23.2 20 3), q23.2)))))
set_option maxRecDepth 20000 in
theorem c_X12_market {l : Launch} {Γ : GG} (hI : Inj Γ) {S : Mem} {q : Int32 × Mem} (hf : f_X12_market S = some q) : MM l Γ yX12_market cX12_market 2 (some .int) 6 134 [aR 20] S (some (aI q.1)) q.2 := by
  refine met_of hI "TickPoolsModel" rfl (by decide +kernel) (Nat.le_of_ble_eq_true rfl) (fun X hX C hr => ?_)
  unfold f_X12_market at hf
  show ZZ X Γ 2 _ S 0 [(0, aR 20)] []
  refine z_aload_n (j := 0) C d_X12_market_0 rfl ?_
  obtain ⟨q1, hF, hf⟩ := bd hf
  refine z_callV1 (rest := []) C [] rfl (by decide) rfl rfl k_X12_readsAll tw_1392 ⟨by decide, by decide⟩ (Nat.le_of_ble_eq_true rfl) d_X12_market_1 (c_X12_readsAll C.inj hF) rfl ?_
  refine z_istore_n (lv' := [(1, aI q1.1), (0, aR 20)]) C d_X12_market_4 (by decide) rfl ?_
  refine z_aload_n (j := 1) C d_X12_market_5 rfl ?_
  refine z_iconst (v := 0) C d_X12_market_6 (by decide) ?_
  refine zp_X12_taped C rfl tw_1219 d_X12_market_7 ?_
  refine z_iload_n (j := 0) C d_X12_market_10 rfl ?_
  refine z_if_ne (tgt := 22) C d_X12_market_11 (by decide) hf (fun c11 hf => ?_) (fun c11 hf => ?_)
  · refine z_aload_n (j := 1) C d_X12_market_22 rfl ?_
    obtain ⟨q23, hF, hf⟩ := bd hf
    refine z_callV0 (rest := []) C [] rfl (by decide) rfl rfl k_X12_begins tw_1447 ⟨by decide, by decide⟩ (Nat.le_of_ble_eq_true rfl) d_X12_market_23 (c_X12_begins C.inj hF) rfl ?_
    refine z_aload_n (j := 1) C d_X12_market_26 rfl ?_
    refine zg_X12_pools C rfl tw_1214 d_X12_market_27 ?_
    exact r_i C hr rfl d_X12_market_30 hf
  · refine z_bipush (v := (-2)) C d_X12_market_14 (by decide) ?_
    refine z_aload_n (j := 1) C d_X12_market_16 rfl ?_
    refine zg_X12_wrong C rfl tw_1221 d_X12_market_17 ?_
    refine z_isub C d_X12_market_20 ?_
    exact r_i C hr rfl d_X12_market_21 hf
theorem d_X12_first_0 : decode cX12_first 0 = .ok (.lload_n 0, 1) := by decide +kernel
theorem d_X12_first_1 : decode cX12_first 1 = .ok (.ldc2_w 222, 3) := by decide +kernel
theorem d_X12_first_4 : decode cX12_first 4 = .ok (.lmul, 1) := by decide +kernel
theorem d_X12_first_5 : decode cX12_first 5 = .ok (.lload 4, 2) := by decide +kernel
theorem d_X12_first_7 : decode cX12_first 7 = .ok (.lload_n 2, 1) := by decide +kernel
theorem d_X12_first_8 : decode cX12_first 8 = .ok (.lsub, 1) := by decide +kernel
theorem d_X12_first_9 : decode cX12_first 9 = .ok (.lmul, 1) := by decide +kernel
theorem d_X12_first_10 : decode cX12_first 10 = .ok (.lstore 7, 2) := by decide +kernel
theorem d_X12_first_12 : decode cX12_first 12 = .ok (.iload 6, 2) := by decide +kernel
theorem d_X12_first_14 : decode cX12_first 14 = .ok (.ifCond .eq 15, 3) := by decide +kernel
theorem d_X12_first_17 : decode cX12_first 17 = .ok (.lload 7, 2) := by decide +kernel
theorem d_X12_first_19 : decode cX12_first 19 = .ok (.lload_n 2, 1) := by decide +kernel
theorem d_X12_first_20 : decode cX12_first 20 = .ok (.lload 4, 2) := by decide +kernel
theorem d_X12_first_22 : decode cX12_first 22 = .ok (.lmul, 1) := by decide +kernel
theorem d_X12_first_23 : decode cX12_first 23 = .ok (.invokestatic 224, 3) := by decide +kernel
theorem d_X12_first_26 : decode cX12_first 26 = .ok (.goto 10, 3) := by decide +kernel
theorem d_X12_first_29 : decode cX12_first 29 = .ok (.lload 7, 2) := by decide +kernel
theorem d_X12_first_31 : decode cX12_first 31 = .ok (.lload_n 2, 1) := by decide +kernel
theorem d_X12_first_32 : decode cX12_first 32 = .ok (.lload 4, 2) := by decide +kernel
theorem d_X12_first_34 : decode cX12_first 34 = .ok (.lmul, 1) := by decide +kernel
theorem d_X12_first_35 : decode cX12_first 35 = .ok (.ldiv, 1) := by decide +kernel
theorem d_X12_first_36 : decode cX12_first 36 = .ok (.lreturn, 1) := by decide +kernel
def f_X12_first_36 (s0 : Int64) (S : Mem) : Option (Int64 × Mem) := (some (s0, S))
set_option maxRecDepth 20000 in
theorem t_X12_first_36 {X : MC} {Γ : GG} (C : CX X Γ cX12_first 9 "TickPoolsModel" 1 23) (hr : X.2.2.2.2.2.2.2.2.1.sig.returnType = some .long) {q : Int64 × Mem} (s0 : Int64) (S : Mem) (hf : f_X12_first_36 s0 S = some q) : ZZ X Γ 9 (QQ X Γ (some (aJ q.1)) q.2) S 36 [] [aJ s0] := by
  unfold f_X12_first_36 at hf
  exact r_l C hr d_X12_first_36 hf
def f_X12_first_12 (v2 : Int64) (v4 : Int64) (v6 : Int32) (v7 : Int64) (S : Mem) : Option (Int64 × Mem) := (if v6 = 0 then (if (v2 * v4) = 0 then none else (f_X12_first_36  (v7 / (v2 * v4)) S)) else ((f_X12_up v7 (v2 * v4) S).bind fun q23 => (f_X12_first_36  q23.1 q23.2)))
set_option maxRecDepth 20000 in
theorem t_X12_first_12 {X : MC} {Γ : GG} (C : CX X Γ cX12_first 9 "TickPoolsModel" 1 23) (hr : X.2.2.2.2.2.2.2.2.1.sig.returnType = some .long) {q : Int64 × Mem} (v2 : Int64) (v4 : Int64) (v6 : Int32) (v7 : Int64) (S : Mem) (hf : f_X12_first_12 v2 v4 v6 v7 S = some q) : ZZ X Γ 9 (QQ X Γ (some (aJ q.1)) q.2) S 12 [(2, aJ v2), (4, aJ v4), (6, aI v6), (7, aJ v7)] [] := by
  unfold f_X12_first_12 at hf
  refine z_iload (j := 2) C d_X12_first_12 rfl ?_
  refine z_if_eq (tgt := 29) C d_X12_first_14 (by decide) hf (fun c14 hf => ?_) (fun c14 hf => ?_)
  · refine z_lload (j := 3) C d_X12_first_29 rfl ?_
    refine z_lload_n (j := 0) C d_X12_first_31 rfl ?_
    refine z_lload (j := 1) C d_X12_first_32 rfl ?_
    refine z_lmul C d_X12_first_34 ?_
    obtain ⟨hz35, hf⟩ := gdn hf
    refine z_ldiv C d_X12_first_35 hz35 ?_
    exact z_sub [] rfl (t_X12_first_36 C hr  _ _ hf)
  · refine z_lload (j := 3) C d_X12_first_17 rfl ?_
    refine z_lload_n (j := 0) C d_X12_first_19 rfl ?_
    refine z_lload (j := 1) C d_X12_first_20 rfl ?_
    refine z_lmul C d_X12_first_22 ?_
    obtain ⟨q23, hF, hf⟩ := bd hf
    refine z_callS1 (rest := []) C [aJ v7, aJ (v2 * v4)] k_X12_up tw_1511 ⟨by decide, by decide⟩ (Nat.le_of_ble_eq_true rfl) d_X12_first_23 (c_X12_up C.inj hF) rfl ?_
    refine z_goto (tgt := 36) C d_X12_first_26 (by decide) ?_
    exact z_sub [] rfl (t_X12_first_36 C hr  _ _ hf)
/-- TickPoolsModel.first(JJJZ)J -/
def f_X12_first (p0 : Int64) (p2 : Int64) (p4 : Int64) (p6 : Int32) (S : Mem) : Option (Int64 × Mem) := (f_X12_first_12  p2 p4 p6 ((p0 * 100000) * (p4 - p2)) S)
set_option maxRecDepth 20000 in
theorem c_X12_first {l : Launch} {Γ : GG} (hI : Inj Γ) {p0 : Int64} {p2 : Int64} {p4 : Int64} {p6 : Int32} {S : Mem} {q : Int64 × Mem} (hf : f_X12_first p0 p2 p4 p6 S = some q) : MM l Γ yX12_first cX12_first 9 (some .long) 1 23 [aJ p0, aJ p2, aJ p4, aI p6] S (some (aJ q.1)) q.2 := by
  refine met_of hI "TickPoolsModel" rfl (by decide +kernel) (Nat.le_of_ble_eq_true rfl) (fun X hX C hr => ?_)
  unfold f_X12_first at hf
  show ZZ X Γ 9 _ S 0 [(0, aJ p0), (2, aJ p2), (4, aJ p4), (6, aI p6)] []
  refine z_lload_n (j := 0) C d_X12_first_0 rfl ?_
  refine z_ldc2 (v := 100000) C tw_1510 d_X12_first_1 ?_
  refine z_lmul C d_X12_first_4 ?_
  refine z_lload (j := 2) C d_X12_first_5 rfl ?_
  refine z_lload_n (j := 1) C d_X12_first_7 rfl ?_
  refine z_lsub C d_X12_first_8 ?_
  refine z_lmul C d_X12_first_9 ?_
  refine z_lstore (lv' := [(7, aJ ((p0 * 100000) * (p4 - p2))), (0, aJ p0), (2, aJ p2), (4, aJ p4), (6, aI p6)]) C d_X12_first_10 (by decide) rfl ?_
  exact z_sub [2, 3, 4, 0] rfl (t_X12_first_12 C hr  _ _ _ _ _ hf)
theorem d_X12_second_0 : decode cX12_second 0 = .ok (.lload_n 0, 1) := by decide +kernel
theorem d_X12_second_1 : decode cX12_second 1 = .ok (.lload 4, 2) := by decide +kernel
theorem d_X12_second_3 : decode cX12_second 3 = .ok (.lload_n 2, 1) := by decide +kernel
theorem d_X12_second_4 : decode cX12_second 4 = .ok (.lsub, 1) := by decide +kernel
theorem d_X12_second_5 : decode cX12_second 5 = .ok (.lmul, 1) := by decide +kernel
theorem d_X12_second_6 : decode cX12_second 6 = .ok (.lstore 7, 2) := by decide +kernel
theorem d_X12_second_8 : decode cX12_second 8 = .ok (.iload 6, 2) := by decide +kernel
theorem d_X12_second_10 : decode cX12_second 10 = .ok (.ifCond .eq 14, 3) := by decide +kernel
theorem d_X12_second_13 : decode cX12_second 13 = .ok (.lload 7, 2) := by decide +kernel
theorem d_X12_second_15 : decode cX12_second 15 = .ok (.ldc2_w 222, 3) := by decide +kernel
theorem d_X12_second_18 : decode cX12_second 18 = .ok (.invokestatic 224, 3) := by decide +kernel
theorem d_X12_second_21 : decode cX12_second 21 = .ok (.goto 9, 3) := by decide +kernel
theorem d_X12_second_24 : decode cX12_second 24 = .ok (.lload 7, 2) := by decide +kernel
theorem d_X12_second_26 : decode cX12_second 26 = .ok (.ldc2_w 222, 3) := by decide +kernel
theorem d_X12_second_29 : decode cX12_second 29 = .ok (.ldiv, 1) := by decide +kernel
theorem d_X12_second_30 : decode cX12_second 30 = .ok (.lreturn, 1) := by decide +kernel
def f_X12_second_30 (s0 : Int64) (S : Mem) : Option (Int64 × Mem) := (some (s0, S))
set_option maxRecDepth 20000 in
theorem t_X12_second_30 {X : MC} {Γ : GG} (C : CX X Γ cX12_second 9 "TickPoolsModel" 1 23) (hr : X.2.2.2.2.2.2.2.2.1.sig.returnType = some .long) {q : Int64 × Mem} (s0 : Int64) (S : Mem) (hf : f_X12_second_30 s0 S = some q) : ZZ X Γ 9 (QQ X Γ (some (aJ q.1)) q.2) S 30 [] [aJ s0] := by
  unfold f_X12_second_30 at hf
  exact r_l C hr d_X12_second_30 hf
def f_X12_second_8 (v6 : Int32) (v7 : Int64) (S : Mem) : Option (Int64 × Mem) := (if v6 = 0 then (f_X12_second_30  (v7 / 100000) S) else ((f_X12_up v7 100000 S).bind fun q18 => (f_X12_second_30  q18.1 q18.2)))
set_option maxRecDepth 20000 in
theorem t_X12_second_8 {X : MC} {Γ : GG} (C : CX X Γ cX12_second 9 "TickPoolsModel" 1 23) (hr : X.2.2.2.2.2.2.2.2.1.sig.returnType = some .long) {q : Int64 × Mem} (v6 : Int32) (v7 : Int64) (S : Mem) (hf : f_X12_second_8 v6 v7 S = some q) : ZZ X Γ 9 (QQ X Γ (some (aJ q.1)) q.2) S 8 [(6, aI v6), (7, aJ v7)] [] := by
  unfold f_X12_second_8 at hf
  refine z_iload (j := 0) C d_X12_second_8 rfl ?_
  refine z_if_eq (tgt := 24) C d_X12_second_10 (by decide) hf (fun c10 hf => ?_) (fun c10 hf => ?_)
  · refine z_lload (j := 1) C d_X12_second_24 rfl ?_
    refine z_ldc2 (v := 100000) C tw_1510 d_X12_second_26 ?_
    refine z_ldiv C d_X12_second_29 (by decide) ?_
    exact z_sub [] rfl (t_X12_second_30 C hr  _ _ hf)
  · refine z_lload (j := 1) C d_X12_second_13 rfl ?_
    refine z_ldc2 (v := 100000) C tw_1510 d_X12_second_15 ?_
    obtain ⟨q18, hF, hf⟩ := bd hf
    refine z_callS1 (rest := []) C [aJ v7, aJ 100000] k_X12_up tw_1511 ⟨by decide, by decide⟩ (Nat.le_of_ble_eq_true rfl) d_X12_second_18 (c_X12_up C.inj hF) rfl ?_
    refine z_goto (tgt := 30) C d_X12_second_21 (by decide) ?_
    exact z_sub [] rfl (t_X12_second_30 C hr  _ _ hf)
/-- TickPoolsModel.second(JJJZ)J -/
def f_X12_second (p0 : Int64) (p2 : Int64) (p4 : Int64) (p6 : Int32) (S : Mem) : Option (Int64 × Mem) := (f_X12_second_8  p6 (p0 * (p4 - p2)) S)
set_option maxRecDepth 20000 in
theorem c_X12_second {l : Launch} {Γ : GG} (hI : Inj Γ) {p0 : Int64} {p2 : Int64} {p4 : Int64} {p6 : Int32} {S : Mem} {q : Int64 × Mem} (hf : f_X12_second p0 p2 p4 p6 S = some q) : MM l Γ yX12_second cX12_second 9 (some .long) 1 23 [aJ p0, aJ p2, aJ p4, aI p6] S (some (aJ q.1)) q.2 := by
  refine met_of hI "TickPoolsModel" rfl (by decide +kernel) (Nat.le_of_ble_eq_true rfl) (fun X hX C hr => ?_)
  unfold f_X12_second at hf
  show ZZ X Γ 9 _ S 0 [(0, aJ p0), (2, aJ p2), (4, aJ p4), (6, aI p6)] []
  refine z_lload_n (j := 0) C d_X12_second_0 rfl ?_
  refine z_lload (j := 2) C d_X12_second_1 rfl ?_
  refine z_lload_n (j := 1) C d_X12_second_3 rfl ?_
  refine z_lsub C d_X12_second_4 ?_
  refine z_lmul C d_X12_second_5 ?_
  refine z_lstore (lv' := [(7, aJ (p0 * (p4 - p2))), (0, aJ p0), (2, aJ p2), (4, aJ p4), (6, aI p6)]) C d_X12_second_6 (by decide) rfl ?_
  exact z_sub [4, 0] rfl (t_X12_second_8 C hr  _ _ _ hf)
theorem d_X12_liesIn_0 : decode cX12_liesIn 0 = .ok (.aload_n 0, 1) := by decide +kernel
theorem d_X12_liesIn_1 : decode cX12_liesIn 1 = .ok (.iload_n 1, 1) := by decide +kernel
theorem d_X12_liesIn_2 : decode cX12_liesIn 2 = .ok (.invokevirtual 228, 3) := by decide +kernel
theorem d_X12_liesIn_5 : decode cX12_liesIn 5 = .ok (.istore 8, 2) := by decide +kernel
theorem d_X12_liesIn_7 : decode cX12_liesIn 7 = .ok (.iload 8, 2) := by decide +kernel
theorem d_X12_liesIn_9 : decode cX12_liesIn 9 = .ok (.iload_n 2, 1) := by decide +kernel
theorem d_X12_liesIn_10 : decode cX12_liesIn 10 = .ok (.if_icmp .lt 15, 3) := by decide +kernel
theorem d_X12_liesIn_13 : decode cX12_liesIn 13 = .ok (.iload 8, 2) := by decide +kernel
theorem d_X12_liesIn_15 : decode cX12_liesIn 15 = .ok (.iload_n 3, 1) := by decide +kernel
theorem d_X12_liesIn_16 : decode cX12_liesIn 16 = .ok (.if_icmp .ge 9, 3) := by decide +kernel
theorem d_X12_liesIn_19 : decode cX12_liesIn 19 = .ok (.iload 6, 2) := by decide +kernel
theorem d_X12_liesIn_21 : decode cX12_liesIn 21 = .ok (.iconst 1, 1) := by decide +kernel
theorem d_X12_liesIn_22 : decode cX12_liesIn 22 = .ok (.if_icmp .ne 12, 3) := by decide +kernel
theorem d_X12_liesIn_25 : decode cX12_liesIn 25 = .ok (.aload_n 0, 1) := by decide +kernel
theorem d_X12_liesIn_26 : decode cX12_liesIn 26 = .ok (.getfield 7, 3) := by decide +kernel
theorem d_X12_liesIn_29 : decode cX12_liesIn 29 = .ok (.iload_n 2, 1) := by decide +kernel
theorem d_X12_liesIn_30 : decode cX12_liesIn 30 = .ok (.laload, 1) := by decide +kernel
theorem d_X12_liesIn_31 : decode cX12_liesIn 31 = .ok (.goto 9, 3) := by decide +kernel
theorem d_X12_liesIn_34 : decode cX12_liesIn 34 = .ok (.aload_n 0, 1) := by decide +kernel
theorem d_X12_liesIn_35 : decode cX12_liesIn 35 = .ok (.iload_n 1, 1) := by decide +kernel
theorem d_X12_liesIn_36 : decode cX12_liesIn 36 = .ok (.iconst 0, 1) := by decide +kernel
theorem d_X12_liesIn_37 : decode cX12_liesIn 37 = .ok (.invokevirtual 116, 3) := by decide +kernel
theorem d_X12_liesIn_40 : decode cX12_liesIn 40 = .ok (.lstore 9, 2) := by decide +kernel
theorem d_X12_liesIn_42 : decode cX12_liesIn 42 = .ok (.iload 8, 2) := by decide +kernel
theorem d_X12_liesIn_44 : decode cX12_liesIn 44 = .ok (.iload_n 2, 1) := by decide +kernel
theorem d_X12_liesIn_45 : decode cX12_liesIn 45 = .ok (.if_icmp .lt 14, 3) := by decide +kernel
theorem d_X12_liesIn_48 : decode cX12_liesIn 48 = .ok (.iload 8, 2) := by decide +kernel
theorem d_X12_liesIn_50 : decode cX12_liesIn 50 = .ok (.iload_n 3, 1) := by decide +kernel
theorem d_X12_liesIn_51 : decode cX12_liesIn 51 = .ok (.if_icmp .ge 8, 3) := by decide +kernel
theorem d_X12_liesIn_54 : decode cX12_liesIn 54 = .ok (.iload 6, 2) := by decide +kernel
theorem d_X12_liesIn_56 : decode cX12_liesIn 56 = .ok (.ifCond .ne 12, 3) := by decide +kernel
theorem d_X12_liesIn_59 : decode cX12_liesIn 59 = .ok (.aload_n 0, 1) := by decide +kernel
theorem d_X12_liesIn_60 : decode cX12_liesIn 60 = .ok (.getfield 7, 3) := by decide +kernel
theorem d_X12_liesIn_63 : decode cX12_liesIn 63 = .ok (.iload_n 3, 1) := by decide +kernel
theorem d_X12_liesIn_64 : decode cX12_liesIn 64 = .ok (.laload, 1) := by decide +kernel
theorem d_X12_liesIn_65 : decode cX12_liesIn 65 = .ok (.goto 9, 3) := by decide +kernel
theorem d_X12_liesIn_68 : decode cX12_liesIn 68 = .ok (.aload_n 0, 1) := by decide +kernel
theorem d_X12_liesIn_69 : decode cX12_liesIn 69 = .ok (.iload_n 1, 1) := by decide +kernel
theorem d_X12_liesIn_70 : decode cX12_liesIn 70 = .ok (.iconst 0, 1) := by decide +kernel
theorem d_X12_liesIn_71 : decode cX12_liesIn 71 = .ok (.invokevirtual 116, 3) := by decide +kernel
theorem d_X12_liesIn_74 : decode cX12_liesIn 74 = .ok (.lstore 11, 2) := by decide +kernel
theorem d_X12_liesIn_76 : decode cX12_liesIn 76 = .ok (.iload 6, 2) := by decide +kernel
theorem d_X12_liesIn_78 : decode cX12_liesIn 78 = .ok (.ifCond .ne 25, 3) := by decide +kernel
theorem d_X12_liesIn_81 : decode cX12_liesIn 81 = .ok (.iload 8, 2) := by decide +kernel
theorem d_X12_liesIn_83 : decode cX12_liesIn 83 = .ok (.iload_n 3, 1) := by decide +kernel
theorem d_X12_liesIn_84 : decode cX12_liesIn 84 = .ok (.if_icmp .lt 7, 3) := by decide +kernel
theorem d_X12_liesIn_87 : decode cX12_liesIn 87 = .ok (.lconst 0, 1) := by decide +kernel
theorem d_X12_liesIn_88 : decode cX12_liesIn 88 = .ok (.goto 14, 3) := by decide +kernel
theorem d_X12_liesIn_91 : decode cX12_liesIn 91 = .ok (.lload 4, 2) := by decide +kernel
theorem d_X12_liesIn_93 : decode cX12_liesIn 93 = .ok (.lload 9, 2) := by decide +kernel
theorem d_X12_liesIn_95 : decode cX12_liesIn 95 = .ok (.lload 11, 2) := by decide +kernel
theorem d_X12_liesIn_97 : decode cX12_liesIn 97 = .ok (.iload 7, 2) := by decide +kernel
theorem d_X12_liesIn_99 : decode cX12_liesIn 99 = .ok (.invokestatic 231, 3) := by decide +kernel
theorem d_X12_liesIn_102 : decode cX12_liesIn 102 = .ok (.lreturn, 1) := by decide +kernel
theorem d_X12_liesIn_103 : decode cX12_liesIn 103 = .ok (.iload 8, 2) := by decide +kernel
theorem d_X12_liesIn_105 : decode cX12_liesIn 105 = .ok (.iload_n 2, 1) := by decide +kernel
theorem d_X12_liesIn_106 : decode cX12_liesIn 106 = .ok (.if_icmp .ge 7, 3) := by decide +kernel
theorem d_X12_liesIn_109 : decode cX12_liesIn 109 = .ok (.lconst 0, 1) := by decide +kernel
theorem d_X12_liesIn_110 : decode cX12_liesIn 110 = .ok (.goto 14, 3) := by decide +kernel
theorem d_X12_liesIn_113 : decode cX12_liesIn 113 = .ok (.lload 4, 2) := by decide +kernel
theorem d_X12_liesIn_115 : decode cX12_liesIn 115 = .ok (.lload 9, 2) := by decide +kernel
theorem d_X12_liesIn_117 : decode cX12_liesIn 117 = .ok (.lload 11, 2) := by decide +kernel
theorem d_X12_liesIn_119 : decode cX12_liesIn 119 = .ok (.iload 7, 2) := by decide +kernel
theorem d_X12_liesIn_121 : decode cX12_liesIn 121 = .ok (.invokestatic 235, 3) := by decide +kernel
theorem d_X12_liesIn_124 : decode cX12_liesIn 124 = .ok (.lreturn, 1) := by decide +kernel
def f_X12_liesIn_102 (s0 : Int64) (S : Mem) : Option (Int64 × Mem) := (some (s0, S))
set_option maxRecDepth 20000 in
theorem t_X12_liesIn_102 {X : MC} {Γ : GG} (C : CX X Γ cX12_liesIn 13 "TickPoolsModel" 2 51) (hr : X.2.2.2.2.2.2.2.2.1.sig.returnType = some .long) {q : Int64 × Mem} (s0 : Int64) (S : Mem) (hf : f_X12_liesIn_102 s0 S = some q) : ZZ X Γ 13 (QQ X Γ (some (aJ q.1)) q.2) S 102 [] [aJ s0] := by
  unfold f_X12_liesIn_102 at hf
  exact r_l C hr d_X12_liesIn_102 hf
def f_X12_liesIn_124 (s0 : Int64) (S : Mem) : Option (Int64 × Mem) := (some (s0, S))
set_option maxRecDepth 20000 in
theorem t_X12_liesIn_124 {X : MC} {Γ : GG} (C : CX X Γ cX12_liesIn 13 "TickPoolsModel" 2 51) (hr : X.2.2.2.2.2.2.2.2.1.sig.returnType = some .long) {q : Int64 × Mem} (s0 : Int64) (S : Mem) (hf : f_X12_liesIn_124 s0 S = some q) : ZZ X Γ 13 (QQ X Γ (some (aJ q.1)) q.2) S 124 [] [aJ s0] := by
  unfold f_X12_liesIn_124 at hf
  exact r_l C hr d_X12_liesIn_124 hf
def f_X12_liesIn_74 (v2 : Int32) (v3 : Int32) (v4 : Int64) (v6 : Int32) (v7 : Int32) (v8 : Int32) (v9 : Int64) (s0 : Int64) (S : Mem) : Option (Int64 × Mem) := (if v6 = 0 then (if v8 < v3 then ((f_X12_first v4 v9 s0 v7 S).bind fun q99 => (f_X12_liesIn_102  q99.1 q99.2)) else (f_X12_liesIn_102  0 S)) else (if v2 ≤ v8 then ((f_X12_second v4 v9 s0 v7 S).bind fun q121 => (f_X12_liesIn_124  q121.1 q121.2)) else (f_X12_liesIn_124  0 S)))
set_option maxRecDepth 20000 in
theorem t_X12_liesIn_74 {X : MC} {Γ : GG} (C : CX X Γ cX12_liesIn 13 "TickPoolsModel" 2 51) (hr : X.2.2.2.2.2.2.2.2.1.sig.returnType = some .long) {q : Int64 × Mem} (v2 : Int32) (v3 : Int32) (v4 : Int64) (v6 : Int32) (v7 : Int32) (v8 : Int32) (v9 : Int64) (s0 : Int64) (S : Mem) (hf : f_X12_liesIn_74 v2 v3 v4 v6 v7 v8 v9 s0 S = some q) : ZZ X Γ 13 (QQ X Γ (some (aJ q.1)) q.2) S 74 [(2, aI v2), (3, aI v3), (4, aJ v4), (6, aI v6), (7, aI v7), (8, aI v8), (9, aJ v9)] [aJ s0] := by
  unfold f_X12_liesIn_74 at hf
  refine z_lstore (lv' := [(11, aJ s0), (2, aI v2), (3, aI v3), (4, aJ v4), (6, aI v6), (7, aI v7), (8, aI v8), (9, aJ v9)]) C d_X12_liesIn_74 (by decide) rfl ?_
  refine z_iload (j := 4) C d_X12_liesIn_76 rfl ?_
  refine z_if_ne (tgt := 103) C d_X12_liesIn_78 (by decide) hf (fun c78 hf => ?_) (fun c78 hf => ?_)
  · refine z_iload (j := 6) C d_X12_liesIn_103 rfl ?_
    refine z_iload_n (j := 1) C d_X12_liesIn_105 rfl ?_
    refine z_icmp_ge (tgt := 113) C d_X12_liesIn_106 (by decide) hf (fun c106 hf => ?_) (fun c106 hf => ?_)
    · refine z_lload (j := 3) C d_X12_liesIn_113 rfl ?_
      refine z_lload (j := 7) C d_X12_liesIn_115 rfl ?_
      refine z_lload (j := 0) C d_X12_liesIn_117 rfl ?_
      refine z_iload (j := 5) C d_X12_liesIn_119 rfl ?_
      obtain ⟨q121, hF, hf⟩ := bd hf
      refine z_callS1 (rest := []) C [aJ v4, aJ v9, aJ s0, aI v7] k_X12_second tw_1514 ⟨by decide, by decide⟩ (Nat.le_of_ble_eq_true rfl) d_X12_liesIn_121 (c_X12_second C.inj hF) rfl ?_
      exact z_sub [] rfl (t_X12_liesIn_124 C hr  _ _ hf)
    · refine z_lconst (v := 0) C d_X12_liesIn_109 (by decide) ?_
      refine z_goto (tgt := 124) C d_X12_liesIn_110 (by decide) ?_
      exact z_sub [] rfl (t_X12_liesIn_124 C hr  _ _ hf)
  · refine z_iload (j := 6) C d_X12_liesIn_81 rfl ?_
    refine z_iload_n (j := 2) C d_X12_liesIn_83 rfl ?_
    refine z_icmp_lt (tgt := 91) C d_X12_liesIn_84 (by decide) hf (fun c84 hf => ?_) (fun c84 hf => ?_)
    · refine z_lload (j := 3) C d_X12_liesIn_91 rfl ?_
      refine z_lload (j := 7) C d_X12_liesIn_93 rfl ?_
      refine z_lload (j := 0) C d_X12_liesIn_95 rfl ?_
      refine z_iload (j := 5) C d_X12_liesIn_97 rfl ?_
      obtain ⟨q99, hF, hf⟩ := bd hf
      refine z_callS1 (rest := []) C [aJ v4, aJ v9, aJ s0, aI v7] k_X12_first tw_1507 ⟨by decide, by decide⟩ (Nat.le_of_ble_eq_true rfl) d_X12_liesIn_99 (c_X12_first C.inj hF) rfl ?_
      exact z_sub [] rfl (t_X12_liesIn_102 C hr  _ _ hf)
    · refine z_lconst (v := 0) C d_X12_liesIn_87 (by decide) ?_
      refine z_goto (tgt := 102) C d_X12_liesIn_88 (by decide) ?_
      exact z_sub [] rfl (t_X12_liesIn_102 C hr  _ _ hf)
def f_X12_liesIn_59 (v2 : Int32) (v3 : Int32) (v4 : Int64) (v6 : Int32) (v7 : Int32) (v8 : Int32) (v9 : Int64) (S : Mem) : Option (Int64 × Mem) := (if inb v3 41 = true then (f_X12_liesIn_74  v2 v3 v4 v6 v7 v8 v9 (gL S 21 ((v3 : Int32).toNatClampNeg)) S) else none)
set_option maxRecDepth 20000 in
theorem t_X12_liesIn_59 {X : MC} {Γ : GG} (C : CX X Γ cX12_liesIn 13 "TickPoolsModel" 2 51) (hr : X.2.2.2.2.2.2.2.2.1.sig.returnType = some .long) {q : Int64 × Mem} (v2 : Int32) (v3 : Int32) (v4 : Int64) (v6 : Int32) (v7 : Int32) (v8 : Int32) (v9 : Int64) (S : Mem) (hf : f_X12_liesIn_59 v2 v3 v4 v6 v7 v8 v9 S = some q) : ZZ X Γ 13 (QQ X Γ (some (aJ q.1)) q.2) S 59 [(0, aR 20), (2, aI v2), (3, aI v3), (4, aJ v4), (6, aI v6), (7, aI v7), (8, aI v8), (9, aJ v9)] [] := by
  unfold f_X12_liesIn_59 at hf
  refine z_aload_n (j := 0) C d_X12_liesIn_59 rfl ?_
  refine zg_X12_rootOf C rfl tw_1211 d_X12_liesIn_60 ?_
  refine z_iload_n (j := 2) C d_X12_liesIn_63 rfl ?_
  obtain ⟨hi64_0, hf⟩ := gd hf
  refine z_lald C rfl hi64_0 d_X12_liesIn_64 ?_
  refine z_goto (tgt := 74) C d_X12_liesIn_65 (by decide) ?_
  exact z_sub [1, 2, 3, 4, 5, 6, 7] rfl (t_X12_liesIn_74 C hr  _ _ _ _ _ _ _ _ _ hf)
def f_X12_liesIn_40 (v1 : Int32) (v2 : Int32) (v3 : Int32) (v4 : Int64) (v6 : Int32) (v7 : Int32) (v8 : Int32) (s0 : Int64) (S : Mem) : Option (Int64 × Mem) := (if v8 < v2 then (f_X12_liesIn_59  v2 v3 v4 v6 v7 v8 s0 S) else (if v3 ≤ v8 then (f_X12_liesIn_59  v2 v3 v4 v6 v7 v8 s0 S) else (if v6 = 0 then (f_X12_liesIn_59  v2 v3 v4 v6 v7 v8 s0 S) else ((f_X12_ofPool v1 0 S).bind fun q71 => (f_X12_liesIn_74  v2 v3 v4 v6 v7 v8 s0 q71.1 q71.2)))))
set_option maxRecDepth 20000 in
theorem t_X12_liesIn_40 {X : MC} {Γ : GG} (C : CX X Γ cX12_liesIn 13 "TickPoolsModel" 2 51) (hr : X.2.2.2.2.2.2.2.2.1.sig.returnType = some .long) {q : Int64 × Mem} (v1 : Int32) (v2 : Int32) (v3 : Int32) (v4 : Int64) (v6 : Int32) (v7 : Int32) (v8 : Int32) (s0 : Int64) (S : Mem) (hf : f_X12_liesIn_40 v1 v2 v3 v4 v6 v7 v8 s0 S = some q) : ZZ X Γ 13 (QQ X Γ (some (aJ q.1)) q.2) S 40 [(0, aR 20), (1, aI v1), (2, aI v2), (3, aI v3), (4, aJ v4), (6, aI v6), (7, aI v7), (8, aI v8)] [aJ s0] := by
  unfold f_X12_liesIn_40 at hf
  refine z_lstore (lv' := [(9, aJ s0), (0, aR 20), (1, aI v1), (2, aI v2), (3, aI v3), (4, aJ v4), (6, aI v6), (7, aI v7), (8, aI v8)]) C d_X12_liesIn_40 (by decide) rfl ?_
  refine z_iload (j := 8) C d_X12_liesIn_42 rfl ?_
  refine z_iload_n (j := 3) C d_X12_liesIn_44 rfl ?_
  refine z_icmp_lt (tgt := 59) C d_X12_liesIn_45 (by decide) hf (fun c45 hf => ?_) (fun c45 hf => ?_)
  · exact z_sub [1, 3, 4, 5, 6, 7, 8, 0] rfl (t_X12_liesIn_59 C hr  _ _ _ _ _ _ _ _ hf)
  · refine z_iload (j := 8) C d_X12_liesIn_48 rfl ?_
    refine z_iload_n (j := 4) C d_X12_liesIn_50 rfl ?_
    refine z_icmp_ge (tgt := 59) C d_X12_liesIn_51 (by decide) hf (fun c51 hf => ?_) (fun c51 hf => ?_)
    · exact z_sub [1, 3, 4, 5, 6, 7, 8, 0] rfl (t_X12_liesIn_59 C hr  _ _ _ _ _ _ _ _ hf)
    · refine z_iload (j := 6) C d_X12_liesIn_54 rfl ?_
      refine z_if_ne (tgt := 68) C d_X12_liesIn_56 (by decide) hf (fun c56 hf => ?_) (fun c56 hf => ?_)
      · refine z_aload_n (j := 1) C d_X12_liesIn_68 rfl ?_
        refine z_iload_n (j := 2) C d_X12_liesIn_69 rfl ?_
        refine z_iconst (v := 0) C d_X12_liesIn_70 (by decide) ?_
        obtain ⟨q71, hF, hf⟩ := bd hf
        refine z_callV1 (rest := []) C [aI v1, aI 0] rfl (by decide) rfl rfl k_X12_ofPool tw_1503 ⟨by decide, by decide⟩ (Nat.le_of_ble_eq_true rfl) d_X12_liesIn_71 (c_X12_ofPool C.inj hF) rfl ?_
        exact z_sub [3, 4, 5, 6, 7, 8, 0] rfl (t_X12_liesIn_74 C hr  _ _ _ _ _ _ _ _ _ hf)
      · exact z_sub [1, 3, 4, 5, 6, 7, 8, 0] rfl (t_X12_liesIn_59 C hr  _ _ _ _ _ _ _ _ hf)
def f_X12_liesIn_25 (v1 : Int32) (v2 : Int32) (v3 : Int32) (v4 : Int64) (v6 : Int32) (v7 : Int32) (v8 : Int32) (S : Mem) : Option (Int64 × Mem) := (if inb v2 41 = true then (f_X12_liesIn_40  v1 v2 v3 v4 v6 v7 v8 (gL S 21 ((v2 : Int32).toNatClampNeg)) S) else none)
set_option maxRecDepth 20000 in
theorem t_X12_liesIn_25 {X : MC} {Γ : GG} (C : CX X Γ cX12_liesIn 13 "TickPoolsModel" 2 51) (hr : X.2.2.2.2.2.2.2.2.1.sig.returnType = some .long) {q : Int64 × Mem} (v1 : Int32) (v2 : Int32) (v3 : Int32) (v4 : Int64) (v6 : Int32) (v7 : Int32) (v8 : Int32) (S : Mem) (hf : f_X12_liesIn_25 v1 v2 v3 v4 v6 v7 v8 S = some q) : ZZ X Γ 13 (QQ X Γ (some (aJ q.1)) q.2) S 25 [(0, aR 20), (1, aI v1), (2, aI v2), (3, aI v3), (4, aJ v4), (6, aI v6), (7, aI v7), (8, aI v8)] [] := by
  unfold f_X12_liesIn_25 at hf
  refine z_aload_n (j := 0) C d_X12_liesIn_25 rfl ?_
  refine zg_X12_rootOf C rfl tw_1211 d_X12_liesIn_26 ?_
  refine z_iload_n (j := 2) C d_X12_liesIn_29 rfl ?_
  obtain ⟨hi30_0, hf⟩ := gd hf
  refine z_lald C rfl hi30_0 d_X12_liesIn_30 ?_
  refine z_goto (tgt := 40) C d_X12_liesIn_31 (by decide) ?_
  exact z_sub [0, 1, 2, 3, 4, 5, 6, 7] rfl (t_X12_liesIn_40 C hr  _ _ _ _ _ _ _ _ _ hf)
/-- TickPoolsModel.liesIn(IIIJIZ)J -/
def f_X12_liesIn (p1 : Int32) (p2 : Int32) (p3 : Int32) (p4 : Int64) (p6 : Int32) (p7 : Int32) (S : Mem) : Option (Int64 × Mem) := ((f_X12_zoneNow p1 S).bind fun q2 => (if q2.1 < p2 then (f_X12_liesIn_25  p1 p2 p3 p4 p6 p7 q2.1 q2.2) else (if p3 ≤ q2.1 then (f_X12_liesIn_25  p1 p2 p3 p4 p6 p7 q2.1 q2.2) else (if p6 = 1 then (f_X12_liesIn_25  p1 p2 p3 p4 p6 p7 q2.1 q2.2) else ((f_X12_ofPool p1 0 q2.2).bind fun q37 => (f_X12_liesIn_40  p1 p2 p3 p4 p6 p7 q2.1 q37.1 q37.2))))))
set_option maxRecDepth 20000 in
theorem c_X12_liesIn {l : Launch} {Γ : GG} (hI : Inj Γ) {p1 : Int32} {p2 : Int32} {p3 : Int32} {p4 : Int64} {p6 : Int32} {p7 : Int32} {S : Mem} {q : Int64 × Mem} (hf : f_X12_liesIn p1 p2 p3 p4 p6 p7 S = some q) : MM l Γ yX12_liesIn cX12_liesIn 13 (some .long) 2 51 [aR 20, aI p1, aI p2, aI p3, aJ p4, aI p6, aI p7] S (some (aJ q.1)) q.2 := by
  refine met_of hI "TickPoolsModel" rfl (by decide +kernel) (Nat.le_of_ble_eq_true rfl) (fun X hX C hr => ?_)
  unfold f_X12_liesIn at hf
  show ZZ X Γ 13 _ S 0 [(0, aR 20), (1, aI p1), (2, aI p2), (3, aI p3), (4, aJ p4), (6, aI p6), (7, aI p7)] []
  refine z_aload_n (j := 0) C d_X12_liesIn_0 rfl ?_
  refine z_iload_n (j := 1) C d_X12_liesIn_1 rfl ?_
  obtain ⟨q2, hF, hf⟩ := bd hf
  refine z_callV1 (rest := []) C [aI p1] rfl (by decide) rfl rfl k_X12_zoneNow tw_1499 ⟨by decide, by decide⟩ (Nat.le_of_ble_eq_true rfl) d_X12_liesIn_2 (c_X12_zoneNow C.inj hF) rfl ?_
  refine z_istore (lv' := [(8, aI q2.1), (0, aR 20), (1, aI p1), (2, aI p2), (3, aI p3), (4, aJ p4), (6, aI p6), (7, aI p7)]) C d_X12_liesIn_5 (by decide) rfl ?_
  refine z_iload (j := 0) C d_X12_liesIn_7 rfl ?_
  refine z_iload_n (j := 3) C d_X12_liesIn_9 rfl ?_
  refine z_icmp_lt (tgt := 25) C d_X12_liesIn_10 (by decide) hf (fun c10 hf => ?_) (fun c10 hf => ?_)
  · exact z_sub [1, 2, 3, 4, 5, 6, 7, 0] rfl (t_X12_liesIn_25 C hr  _ _ _ _ _ _ _ _ hf)
  · refine z_iload (j := 0) C d_X12_liesIn_13 rfl ?_
    refine z_iload_n (j := 4) C d_X12_liesIn_15 rfl ?_
    refine z_icmp_ge (tgt := 25) C d_X12_liesIn_16 (by decide) hf (fun c16 hf => ?_) (fun c16 hf => ?_)
    · exact z_sub [1, 2, 3, 4, 5, 6, 7, 0] rfl (t_X12_liesIn_25 C hr  _ _ _ _ _ _ _ _ hf)
    · refine z_iload (j := 6) C d_X12_liesIn_19 rfl ?_
      refine z_iconst (v := 1) C d_X12_liesIn_21 (by decide) ?_
      refine z_icmp_ne (tgt := 34) C d_X12_liesIn_22 (by decide) hf (fun c22 hf => ?_) (fun c22 hf => ?_)
      · refine z_aload_n (j := 1) C d_X12_liesIn_34 rfl ?_
        refine z_iload_n (j := 2) C d_X12_liesIn_35 rfl ?_
        refine z_iconst (v := 0) C d_X12_liesIn_36 (by decide) ?_
        obtain ⟨q37, hF, hf⟩ := bd hf
        refine z_callV1 (rest := []) C [aI p1, aI 0] rfl (by decide) rfl rfl k_X12_ofPool tw_1503 ⟨by decide, by decide⟩ (Nat.le_of_ble_eq_true rfl) d_X12_liesIn_37 (c_X12_ofPool C.inj hF) rfl ?_
        exact z_sub [1, 2, 3, 4, 5, 6, 7, 0] rfl (t_X12_liesIn_40 C hr  _ _ _ _ _ _ _ _ _ hf)
      · exact z_sub [1, 2, 3, 4, 5, 6, 7, 0] rfl (t_X12_liesIn_25 C hr  _ _ _ _ _ _ _ _ hf)
theorem d_X12_isAcross_0 : decode cX12_isAcross 0 = .ok (.aload_n 0, 1) := by decide +kernel
theorem d_X12_isAcross_1 : decode cX12_isAcross 1 = .ok (.iload_n 1, 1) := by decide +kernel
theorem d_X12_isAcross_2 : decode cX12_isAcross 2 = .ok (.iconst 1, 1) := by decide +kernel
theorem d_X12_isAcross_3 : decode cX12_isAcross 3 = .ok (.invokevirtual 238, 3) := by decide +kernel
theorem d_X12_isAcross_6 : decode cX12_isAcross 6 = .ok (.iload_n 2, 1) := by decide +kernel
theorem d_X12_isAcross_7 : decode cX12_isAcross 7 = .ok (.i2l, 1) := by decide +kernel
theorem d_X12_isAcross_8 : decode cX12_isAcross 8 = .ok (.lcmp, 1) := by decide +kernel
theorem d_X12_isAcross_9 : decode cX12_isAcross 9 = .ok (.ifCond .ne 31, 3) := by decide +kernel
theorem d_X12_isAcross_12 : decode cX12_isAcross 12 = .ok (.aload_n 0, 1) := by decide +kernel
theorem d_X12_isAcross_13 : decode cX12_isAcross 13 = .ok (.iload_n 1, 1) := by decide +kernel
theorem d_X12_isAcross_14 : decode cX12_isAcross 14 = .ok (.iconst 2, 1) := by decide +kernel
theorem d_X12_isAcross_15 : decode cX12_isAcross 15 = .ok (.invokevirtual 238, 3) := by decide +kernel
theorem d_X12_isAcross_18 : decode cX12_isAcross 18 = .ok (.iload_n 3, 1) := by decide +kernel
theorem d_X12_isAcross_19 : decode cX12_isAcross 19 = .ok (.i2l, 1) := by decide +kernel
theorem d_X12_isAcross_20 : decode cX12_isAcross 20 = .ok (.lcmp, 1) := by decide +kernel
theorem d_X12_isAcross_21 : decode cX12_isAcross 21 = .ok (.ifCond .gt 19, 3) := by decide +kernel
theorem d_X12_isAcross_24 : decode cX12_isAcross 24 = .ok (.aload_n 0, 1) := by decide +kernel
theorem d_X12_isAcross_25 : decode cX12_isAcross 25 = .ok (.iload_n 1, 1) := by decide +kernel
theorem d_X12_isAcross_26 : decode cX12_isAcross 26 = .ok (.iconst 3, 1) := by decide +kernel
theorem d_X12_isAcross_27 : decode cX12_isAcross 27 = .ok (.invokevirtual 238, 3) := by decide +kernel
theorem d_X12_isAcross_30 : decode cX12_isAcross 30 = .ok (.iload_n 3, 1) := by decide +kernel
theorem d_X12_isAcross_31 : decode cX12_isAcross 31 = .ok (.i2l, 1) := by decide +kernel
theorem d_X12_isAcross_32 : decode cX12_isAcross 32 = .ok (.lcmp, 1) := by decide +kernel
theorem d_X12_isAcross_33 : decode cX12_isAcross 33 = .ok (.ifCond .le 7, 3) := by decide +kernel
theorem d_X12_isAcross_36 : decode cX12_isAcross 36 = .ok (.iconst 1, 1) := by decide +kernel
theorem d_X12_isAcross_37 : decode cX12_isAcross 37 = .ok (.goto 4, 3) := by decide +kernel
theorem d_X12_isAcross_40 : decode cX12_isAcross 40 = .ok (.iconst 0, 1) := by decide +kernel
theorem d_X12_isAcross_41 : decode cX12_isAcross 41 = .ok (.ireturn, 1) := by decide +kernel
def f_X12_isAcross_41 (s0 : Int32) (S : Mem) : Option (Int32 × Mem) := (if isB s0 = true then (some (s0, S)) else none)
set_option maxRecDepth 20000 in
theorem t_X12_isAcross_41 {X : MC} {Γ : GG} (C : CX X Γ cX12_isAcross 4 "TickPoolsModel" 1 22) (hr : X.2.2.2.2.2.2.2.2.1.sig.returnType = some .boolean) {q : Int32 × Mem} (s0 : Int32) (S : Mem) (hf : f_X12_isAcross_41 s0 S = some q) : ZZ X Γ 4 (QQ X Γ (some (aI q.1)) q.2) S 41 [] [aI s0] := by
  unfold f_X12_isAcross_41 at hf
  obtain ⟨hb41_0, hf⟩ := gd hf
  exact r_i C hr (isB_nar hb41_0).1 d_X12_isAcross_41 hf
def f_X12_isAcross_40 (S : Mem) : Option (Int32 × Mem) := (f_X12_isAcross_41  0 S)
set_option maxRecDepth 20000 in
theorem t_X12_isAcross_40 {X : MC} {Γ : GG} (C : CX X Γ cX12_isAcross 4 "TickPoolsModel" 1 22) (hr : X.2.2.2.2.2.2.2.2.1.sig.returnType = some .boolean) {q : Int32 × Mem} (S : Mem) (hf : f_X12_isAcross_40 S = some q) : ZZ X Γ 4 (QQ X Γ (some (aI q.1)) q.2) S 40 [] [] := by
  unfold f_X12_isAcross_40 at hf
  refine z_iconst (v := 0) C d_X12_isAcross_40 (by decide) ?_
  exact z_sub [] rfl (t_X12_isAcross_41 C hr  _ _ hf)
/-- TickPoolsModel.isAcross(III)Z -/
def f_X12_isAcross (p1 : Int32) (p2 : Int32) (p3 : Int32) (S : Mem) : Option (Int32 × Mem) := ((f_X12_ofStake p1 1 S).bind fun q3 => (if q3.1 = (p2.toInt64) then ((f_X12_ofStake p1 2 q3.2).bind fun q15 => (if (p3.toInt64) < q15.1 then (f_X12_isAcross_40  q15.2) else ((f_X12_ofStake p1 3 q15.2).bind fun q27 => (if q27.1 ≤ (p3.toInt64) then (f_X12_isAcross_40  q27.2) else (f_X12_isAcross_41  1 q27.2))))) else (f_X12_isAcross_40  q3.2)))
set_option maxRecDepth 20000 in
theorem c_X12_isAcross {l : Launch} {Γ : GG} (hI : Inj Γ) {p1 : Int32} {p2 : Int32} {p3 : Int32} {S : Mem} {q : Int32 × Mem} (hf : f_X12_isAcross p1 p2 p3 S = some q) : MM l Γ yX12_isAcross cX12_isAcross 4 (some .boolean) 1 22 [aR 20, aI p1, aI p2, aI p3] S (some (aI q.1)) q.2 := by
  refine met_of hI "TickPoolsModel" rfl (by decide +kernel) (Nat.le_of_ble_eq_true rfl) (fun X hX C hr => ?_)
  unfold f_X12_isAcross at hf
  show ZZ X Γ 4 _ S 0 [(0, aR 20), (1, aI p1), (2, aI p2), (3, aI p3)] []
  refine z_aload_n (j := 0) C d_X12_isAcross_0 rfl ?_
  refine z_iload_n (j := 1) C d_X12_isAcross_1 rfl ?_
  refine z_iconst (v := 1) C d_X12_isAcross_2 (by decide) ?_
  obtain ⟨q3, hF, hf⟩ := bd hf
  refine z_callV1 (rest := []) C [aI p1, aI 1] rfl (by decide) rfl rfl k_X12_ofStake tw_1490 ⟨by decide, by decide⟩ (Nat.le_of_ble_eq_true rfl) d_X12_isAcross_3 (c_X12_ofStake C.inj hF) rfl ?_
  refine z_iload_n (j := 2) C d_X12_isAcross_6 rfl ?_
  refine z_i2l C d_X12_isAcross_7 ?_
  refine z_lne (tgt := 40) C d_X12_isAcross_8 d_X12_isAcross_9 (by decide) hf (fun c8 hf => ?_) (fun c8 hf => ?_)
  · exact z_sub [] rfl (t_X12_isAcross_40 C hr  _ hf)
  · refine z_aload_n (j := 0) C d_X12_isAcross_12 rfl ?_
    refine z_iload_n (j := 1) C d_X12_isAcross_13 rfl ?_
    refine z_iconst (v := 2) C d_X12_isAcross_14 (by decide) ?_
    obtain ⟨q15, hF, hf⟩ := bd hf
    refine z_callV1 (rest := []) C [aI p1, aI 2] rfl (by decide) rfl rfl k_X12_ofStake tw_1490 ⟨by decide, by decide⟩ (Nat.le_of_ble_eq_true rfl) d_X12_isAcross_15 (c_X12_ofStake C.inj hF) rfl ?_
    refine z_iload_n (j := 3) C d_X12_isAcross_18 rfl ?_
    refine z_i2l C d_X12_isAcross_19 ?_
    refine z_lgt (tgt := 40) C d_X12_isAcross_20 d_X12_isAcross_21 (by decide) hf (fun c20 hf => ?_) (fun c20 hf => ?_)
    · exact z_sub [] rfl (t_X12_isAcross_40 C hr  _ hf)
    · refine z_aload_n (j := 0) C d_X12_isAcross_24 rfl ?_
      refine z_iload_n (j := 1) C d_X12_isAcross_25 rfl ?_
      refine z_iconst (v := 3) C d_X12_isAcross_26 (by decide) ?_
      obtain ⟨q27, hF, hf⟩ := bd hf
      refine z_callV1 (rest := []) C [aI p1, aI 3] rfl (by decide) rfl rfl k_X12_ofStake tw_1490 ⟨by decide, by decide⟩ (Nat.le_of_ble_eq_true rfl) d_X12_isAcross_27 (c_X12_ofStake C.inj hF) rfl ?_
      refine z_iload_n (j := 3) C d_X12_isAcross_30 rfl ?_
      refine z_i2l C d_X12_isAcross_31 ?_
      refine z_lle (tgt := 40) C d_X12_isAcross_32 d_X12_isAcross_33 (by decide) hf (fun c32 hf => ?_) (fun c32 hf => ?_)
      · exact z_sub [] rfl (t_X12_isAcross_40 C hr  _ hf)
      · refine z_iconst (v := 1) C d_X12_isAcross_36 (by decide) ?_
        refine z_goto (tgt := 41) C d_X12_isAcross_37 (by decide) ?_
        exact z_sub [] rfl (t_X12_isAcross_41 C hr  _ _ hf)
theorem d_X12_depthOf_0 : decode cX12_depthOf 0 = .ok (.lconst 0, 1) := by decide +kernel
theorem d_X12_depthOf_1 : decode cX12_depthOf 1 = .ok (.lstore_n 3, 1) := by decide +kernel
theorem d_X12_depthOf_2 : decode cX12_depthOf 2 = .ok (.iconst 0, 1) := by decide +kernel
theorem d_X12_depthOf_3 : decode cX12_depthOf 3 = .ok (.istore 5, 2) := by decide +kernel
theorem d_X12_depthOf_5 : decode cX12_depthOf 5 = .ok (.iload 5, 2) := by decide +kernel
theorem d_X12_depthOf_7 : decode cX12_depthOf 7 = .ok (.aload_n 0, 1) := by decide +kernel
theorem d_X12_depthOf_8 : decode cX12_depthOf 8 = .ok (.invokevirtual 130, 3) := by decide +kernel
theorem d_X12_depthOf_11 : decode cX12_depthOf 11 = .ok (.if_icmp .ge 34, 3) := by decide +kernel
theorem d_X12_depthOf_14 : decode cX12_depthOf 14 = .ok (.lload_n 3, 1) := by decide +kernel
theorem d_X12_depthOf_15 : decode cX12_depthOf 15 = .ok (.aload_n 0, 1) := by decide +kernel
theorem d_X12_depthOf_16 : decode cX12_depthOf 16 = .ok (.iload 5, 2) := by decide +kernel
theorem d_X12_depthOf_18 : decode cX12_depthOf 18 = .ok (.iload_n 1, 1) := by decide +kernel
theorem d_X12_depthOf_19 : decode cX12_depthOf 19 = .ok (.iload_n 2, 1) := by decide +kernel
theorem d_X12_depthOf_20 : decode cX12_depthOf 20 = .ok (.invokevirtual 241, 3) := by decide +kernel
theorem d_X12_depthOf_23 : decode cX12_depthOf 23 = .ok (.ifCond .eq 13, 3) := by decide +kernel
theorem d_X12_depthOf_26 : decode cX12_depthOf 26 = .ok (.aload_n 0, 1) := by decide +kernel
theorem d_X12_depthOf_27 : decode cX12_depthOf 27 = .ok (.iload 5, 2) := by decide +kernel
theorem d_X12_depthOf_29 : decode cX12_depthOf 29 = .ok (.iconst 5, 1) := by decide +kernel
theorem d_X12_depthOf_30 : decode cX12_depthOf 30 = .ok (.invokevirtual 238, 3) := by decide +kernel
theorem d_X12_depthOf_33 : decode cX12_depthOf 33 = .ok (.goto 4, 3) := by decide +kernel
theorem d_X12_depthOf_36 : decode cX12_depthOf 36 = .ok (.lconst 0, 1) := by decide +kernel
theorem d_X12_depthOf_37 : decode cX12_depthOf 37 = .ok (.ladd, 1) := by decide +kernel
theorem d_X12_depthOf_38 : decode cX12_depthOf 38 = .ok (.lstore_n 3, 1) := by decide +kernel
theorem d_X12_depthOf_39 : decode cX12_depthOf 39 = .ok (.iinc 5 1, 3) := by decide +kernel
theorem d_X12_depthOf_42 : decode cX12_depthOf 42 = .ok (.goto (-37), 3) := by decide +kernel
theorem d_X12_depthOf_45 : decode cX12_depthOf 45 = .ok (.lload_n 3, 1) := by decide +kernel
theorem d_X12_depthOf_46 : decode cX12_depthOf 46 = .ok (.lreturn, 1) := by decide +kernel
def f_X12_depthOf_39 (k5 : Int32 → Int32 → Int64 → Int32 → Mem → Option (Int64 × Mem)) (v1 : Int32) (v2 : Int32) (v3 : Int64) (v5 : Int32) (S : Mem) : Option (Int64 × Mem) := (k5 v1 v2 v3 (v5 + 1) S)
set_option maxRecDepth 20000 in
theorem t_X12_depthOf_39 {X : MC} {Γ : GG} (C : CX X Γ cX12_depthOf 6 "TickPoolsModel" 2 45) (hr : X.2.2.2.2.2.2.2.2.1.sig.returnType = some .long) {k5 : Int32 → Int32 → Int64 → Int32 → Mem → Option (Int64 × Mem)} {q : Int64 × Mem} (hk5 : ∀ (v1 : Int32) (v2 : Int32) (v3 : Int64) (v5 : Int32) (S : Mem), k5 v1 v2 v3 v5 S = some q → ZZ X Γ 6 (QQ X Γ (some (aJ q.1)) q.2) S 5 [(0, aR 20), (1, aI v1), (2, aI v2), (3, aJ v3), (5, aI v5)] []) (v1 : Int32) (v2 : Int32) (v3 : Int64) (v5 : Int32) (S : Mem) (hf : f_X12_depthOf_39 k5 v1 v2 v3 v5 S = some q) : ZZ X Γ 6 (QQ X Γ (some (aJ q.1)) q.2) S 39 [(0, aR 20), (1, aI v1), (2, aI v2), (3, aJ v3), (5, aI v5)] [] := by
  unfold f_X12_depthOf_39 at hf
  refine z_iinc (j := 4) (v := (v5 + 1)) (lv' := [(5, aI (v5 + 1)), (0, aR 20), (1, aI v1), (2, aI v2), (3, aJ v3)]) C d_X12_depthOf_39 rfl rfl (by decide) rfl ?_
  refine z_goto (tgt := 5) C d_X12_depthOf_42 (by decide) ?_
  exact z_sub [1, 2, 3, 4, 0] rfl (hk5 _ _ _ _ _ hf)
def f_X12_depthOf_37 (k5 : Int32 → Int32 → Int64 → Int32 → Mem → Option (Int64 × Mem)) (v1 : Int32) (v2 : Int32) (v5 : Int32) (s0 : Int64) (s1 : Int64) (S : Mem) : Option (Int64 × Mem) := (f_X12_depthOf_39 k5 v1 v2 (s1 + s0) v5 S)
set_option maxRecDepth 20000 in
theorem t_X12_depthOf_37 {X : MC} {Γ : GG} (C : CX X Γ cX12_depthOf 6 "TickPoolsModel" 2 45) (hr : X.2.2.2.2.2.2.2.2.1.sig.returnType = some .long) {k5 : Int32 → Int32 → Int64 → Int32 → Mem → Option (Int64 × Mem)} {q : Int64 × Mem} (hk5 : ∀ (v1 : Int32) (v2 : Int32) (v3 : Int64) (v5 : Int32) (S : Mem), k5 v1 v2 v3 v5 S = some q → ZZ X Γ 6 (QQ X Γ (some (aJ q.1)) q.2) S 5 [(0, aR 20), (1, aI v1), (2, aI v2), (3, aJ v3), (5, aI v5)] []) (v1 : Int32) (v2 : Int32) (v5 : Int32) (s0 : Int64) (s1 : Int64) (S : Mem) (hf : f_X12_depthOf_37 k5 v1 v2 v5 s0 s1 S = some q) : ZZ X Γ 6 (QQ X Γ (some (aJ q.1)) q.2) S 37 [(0, aR 20), (1, aI v1), (2, aI v2), (5, aI v5)] [aJ s0, aJ s1] := by
  unfold f_X12_depthOf_37 at hf
  refine z_ladd C d_X12_depthOf_37 ?_
  refine z_lstore_n (lv' := [(3, aJ (s1 + s0)), (0, aR 20), (1, aI v1), (2, aI v2), (5, aI v5)]) C d_X12_depthOf_38 (by decide) rfl ?_
  exact z_sub [1, 2, 3, 0, 4] rfl (t_X12_depthOf_39 C hr hk5 _ _ _ _ _ hf)
def f_X12_depthOf_5B (k5 : Int32 → Int32 → Int64 → Int32 → Mem → Option (Int64 × Mem)) (v1 : Int32) (v2 : Int32) (v3 : Int64) (v5 : Int32) (S : Mem) : Option (Int64 × Mem) := ((f_X12_stakes S).bind fun q8 => (if q8.1 ≤ v5 then (some (v3, q8.2)) else ((f_X12_isAcross v5 v1 v2 q8.2).bind fun q20 => (if q20.1 = 0 then (f_X12_depthOf_37 k5 v1 v2 v5 0 v3 q20.2) else ((f_X12_ofStake v5 5 q20.2).bind fun q30 => (f_X12_depthOf_37 k5 v1 v2 v5 q30.1 v3 q30.2))))))
set_option maxRecDepth 20000 in
theorem t_X12_depthOf_5B {X : MC} {Γ : GG} (C : CX X Γ cX12_depthOf 6 "TickPoolsModel" 2 45) (hr : X.2.2.2.2.2.2.2.2.1.sig.returnType = some .long) {k5 : Int32 → Int32 → Int64 → Int32 → Mem → Option (Int64 × Mem)} {q : Int64 × Mem} (hk5 : ∀ (v1 : Int32) (v2 : Int32) (v3 : Int64) (v5 : Int32) (S : Mem), k5 v1 v2 v3 v5 S = some q → ZZ X Γ 6 (QQ X Γ (some (aJ q.1)) q.2) S 5 [(0, aR 20), (1, aI v1), (2, aI v2), (3, aJ v3), (5, aI v5)] []) (v1 : Int32) (v2 : Int32) (v3 : Int64) (v5 : Int32) (S : Mem) (hf : f_X12_depthOf_5B k5 v1 v2 v3 v5 S = some q) : ZZ X Γ 6 (QQ X Γ (some (aJ q.1)) q.2) S 5 [(0, aR 20), (1, aI v1), (2, aI v2), (3, aJ v3), (5, aI v5)] [] := by
  unfold f_X12_depthOf_5B at hf
  refine z_iload (j := 4) C d_X12_depthOf_5 rfl ?_
  refine z_aload_n (j := 0) C d_X12_depthOf_7 rfl ?_
  obtain ⟨q8, hF, hf⟩ := bd hf
  refine z_callV1 (rest := [aI v5]) C [] rfl (by decide) rfl rfl k_X12_stakes tw_1486 ⟨by decide, by decide⟩ (Nat.le_of_ble_eq_true rfl) d_X12_depthOf_8 (c_X12_stakes C.inj hF) rfl ?_
  refine z_icmp_ge (tgt := 45) C d_X12_depthOf_11 (by decide) hf (fun c11 hf => ?_) (fun c11 hf => ?_)
  · refine z_lload_n (j := 3) C d_X12_depthOf_45 rfl ?_
    exact r_l C hr d_X12_depthOf_46 hf
  · refine z_lload_n (j := 3) C d_X12_depthOf_14 rfl ?_
    refine z_aload_n (j := 0) C d_X12_depthOf_15 rfl ?_
    refine z_iload (j := 4) C d_X12_depthOf_16 rfl ?_
    refine z_iload_n (j := 1) C d_X12_depthOf_18 rfl ?_
    refine z_iload_n (j := 2) C d_X12_depthOf_19 rfl ?_
    obtain ⟨q20, hF, hf⟩ := bd hf
    refine z_callV1 (rest := [aJ v3]) C [aI v5, aI v1, aI v2] rfl (by decide) rfl rfl k_X12_isAcross tw_1624 ⟨by decide, by decide⟩ (Nat.le_of_ble_eq_true rfl) d_X12_depthOf_20 (c_X12_isAcross C.inj hF) rfl ?_
    refine z_if_eq (tgt := 36) C d_X12_depthOf_23 (by decide) hf (fun c23 hf => ?_) (fun c23 hf => ?_)
    · refine z_lconst (v := 0) C d_X12_depthOf_36 (by decide) ?_
      exact z_sub [0, 1, 2, 4] rfl (t_X12_depthOf_37 C hr hk5 _ _ _ _ _ _ hf)
    · refine z_aload_n (j := 0) C d_X12_depthOf_26 rfl ?_
      refine z_iload (j := 4) C d_X12_depthOf_27 rfl ?_
      refine z_iconst (v := 5) C d_X12_depthOf_29 (by decide) ?_
      obtain ⟨q30, hF, hf⟩ := bd hf
      refine z_callV1 (rest := [aJ v3]) C [aI v5, aI 5] rfl (by decide) rfl rfl k_X12_ofStake tw_1490 ⟨by decide, by decide⟩ (Nat.le_of_ble_eq_true rfl) d_X12_depthOf_30 (c_X12_ofStake C.inj hF) rfl ?_
      refine z_goto (tgt := 37) C d_X12_depthOf_33 (by decide) ?_
      exact z_sub [0, 1, 2, 4] rfl (t_X12_depthOf_37 C hr hk5 _ _ _ _ _ _ hf)
def f_X12_depthOf_5 : Nat → Int32 → Int32 → Int64 → Int32 → Mem → Option (Int64 × Mem)
  | 0 => fun _ _ _ _ _ => none
  | n + 1 => f_X12_depthOf_5B (f_X12_depthOf_5 n)
theorem t_X12_depthOf_5 {X : MC} {Γ : GG} (C : CX X Γ cX12_depthOf 6 "TickPoolsModel" 2 45) (hr : X.2.2.2.2.2.2.2.2.1.sig.returnType = some .long) {q : Int64 × Mem} : ∀ (n : Nat) (v1 : Int32) (v2 : Int32) (v3 : Int64) (v5 : Int32) (S : Mem) (hf : f_X12_depthOf_5 n v1 v2 v3 v5 S = some q), ZZ X Γ 6 (QQ X Γ (some (aJ q.1)) q.2) S 5 [(0, aR 20), (1, aI v1), (2, aI v2), (3, aJ v3), (5, aI v5)] []
  | 0, _, _, _, _, _, hf => nomatch (show (none : Option (Int64 × Mem)) = some q from hf)
  | n + 1, v1, v2, v3, v5, S, hf => t_X12_depthOf_5B C hr (t_X12_depthOf_5 C hr n) v1 v2 v3 v5 S hf
/-- TickPoolsModel.depthOf(II)J -/
def f_X12_depthOf (p1 : Int32) (p2 : Int32) (S : Mem) : Option (Int64 × Mem) := (f_X12_depthOf_5  100000 p1 p2 0 0 S)
set_option maxRecDepth 20000 in
theorem c_X12_depthOf {l : Launch} {Γ : GG} (hI : Inj Γ) {p1 : Int32} {p2 : Int32} {S : Mem} {q : Int64 × Mem} (hf : f_X12_depthOf p1 p2 S = some q) : MM l Γ yX12_depthOf cX12_depthOf 6 (some .long) 2 45 [aR 20, aI p1, aI p2] S (some (aJ q.1)) q.2 := by
  refine met_of hI "TickPoolsModel" rfl (by decide +kernel) (Nat.le_of_ble_eq_true rfl) (fun X hX C hr => ?_)
  unfold f_X12_depthOf at hf
  show ZZ X Γ 6 _ S 0 [(0, aR 20), (1, aI p1), (2, aI p2)] []
  refine z_lconst (v := 0) C d_X12_depthOf_0 (by decide) ?_
  refine z_lstore_n (lv' := [(3, aJ 0), (0, aR 20), (1, aI p1), (2, aI p2)]) C d_X12_depthOf_1 (by decide) rfl ?_
  refine z_iconst (v := 0) C d_X12_depthOf_2 (by decide) ?_
  refine z_istore (lv' := [(5, aI 0), (3, aJ 0), (0, aR 20), (1, aI p1), (2, aI p2)]) C d_X12_depthOf_3 (by decide) rfl ?_
  exact z_sub [2, 3, 4, 1, 0] rfl (t_X12_depthOf_5 C hr  100000 _ _ _ _ _ hf)
theorem d_X12_owedTo_0 : decode cX12_owedTo 0 = .ok (.aload_n 0, 1) := by decide +kernel
theorem d_X12_owedTo_1 : decode cX12_owedTo 1 = .ok (.iload_n 1, 1) := by decide +kernel
theorem d_X12_owedTo_2 : decode cX12_owedTo 2 = .ok (.bipush 8, 2) := by decide +kernel
theorem d_X12_owedTo_4 : decode cX12_owedTo 4 = .ok (.iload_n 2, 1) := by decide +kernel
theorem d_X12_owedTo_5 : decode cX12_owedTo 5 = .ok (.iadd, 1) := by decide +kernel
theorem d_X12_owedTo_6 : decode cX12_owedTo 6 = .ok (.invokevirtual 238, 3) := by decide +kernel
theorem d_X12_owedTo_9 : decode cX12_owedTo 9 = .ok (.aload_n 0, 1) := by decide +kernel
theorem d_X12_owedTo_10 : decode cX12_owedTo 10 = .ok (.iload_n 1, 1) := by decide +kernel
theorem d_X12_owedTo_11 : decode cX12_owedTo 11 = .ok (.iconst 5, 1) := by decide +kernel
theorem d_X12_owedTo_12 : decode cX12_owedTo 12 = .ok (.invokevirtual 238, 3) := by decide +kernel
theorem d_X12_owedTo_15 : decode cX12_owedTo 15 = .ok (.aload_n 0, 1) := by decide +kernel
theorem d_X12_owedTo_16 : decode cX12_owedTo 16 = .ok (.iload_n 1, 1) := by decide +kernel
theorem d_X12_owedTo_17 : decode cX12_owedTo 17 = .ok (.bipush 6, 2) := by decide +kernel
theorem d_X12_owedTo_19 : decode cX12_owedTo 19 = .ok (.iload_n 2, 1) := by decide +kernel
theorem d_X12_owedTo_20 : decode cX12_owedTo 20 = .ok (.iadd, 1) := by decide +kernel
theorem d_X12_owedTo_21 : decode cX12_owedTo 21 = .ok (.invokevirtual 238, 3) := by decide +kernel
theorem d_X12_owedTo_24 : decode cX12_owedTo 24 = .ok (.lmul, 1) := by decide +kernel
theorem d_X12_owedTo_25 : decode cX12_owedTo 25 = .ok (.ldc2_w 245, 3) := by decide +kernel
theorem d_X12_owedTo_28 : decode cX12_owedTo 28 = .ok (.ldiv, 1) := by decide +kernel
theorem d_X12_owedTo_29 : decode cX12_owedTo 29 = .ok (.ladd, 1) := by decide +kernel
theorem d_X12_owedTo_30 : decode cX12_owedTo 30 = .ok (.lreturn, 1) := by decide +kernel
/-- TickPoolsModel.owedTo(II)J -/
def f_X12_owedTo (p1 : Int32) (p2 : Int32) (S : Mem) : Option (Int64 × Mem) := ((f_X12_ofStake p1 (8 + p2) S).bind fun q6 => ((f_X12_ofStake p1 5 q6.2).bind fun q12 => ((f_X12_ofStake p1 (6 + p2) q12.2).bind fun q21 => (some ((q6.1 + ((q12.1 * q21.1) / 1048576)), q21.2)))))
set_option maxRecDepth 20000 in
theorem c_X12_owedTo {l : Launch} {Γ : GG} (hI : Inj Γ) {p1 : Int32} {p2 : Int32} {S : Mem} {q : Int64 × Mem} (hf : f_X12_owedTo p1 p2 S = some q) : MM l Γ yX12_owedTo cX12_owedTo 3 (some .long) 1 22 [aR 20, aI p1, aI p2] S (some (aJ q.1)) q.2 := by
  refine met_of hI "TickPoolsModel" rfl (by decide +kernel) (Nat.le_of_ble_eq_true rfl) (fun X hX C hr => ?_)
  unfold f_X12_owedTo at hf
  show ZZ X Γ 3 _ S 0 [(0, aR 20), (1, aI p1), (2, aI p2)] []
  refine z_aload_n (j := 0) C d_X12_owedTo_0 rfl ?_
  refine z_iload_n (j := 1) C d_X12_owedTo_1 rfl ?_
  refine z_bipush (v := 8) C d_X12_owedTo_2 (by decide) ?_
  refine z_iload_n (j := 2) C d_X12_owedTo_4 rfl ?_
  refine z_iadd C d_X12_owedTo_5 ?_
  obtain ⟨q6, hF, hf⟩ := bd hf
  refine z_callV1 (rest := []) C [aI p1, aI (8 + p2)] rfl (by decide) rfl rfl k_X12_ofStake tw_1490 ⟨by decide, by decide⟩ (Nat.le_of_ble_eq_true rfl) d_X12_owedTo_6 (c_X12_ofStake C.inj hF) rfl ?_
  refine z_aload_n (j := 0) C d_X12_owedTo_9 rfl ?_
  refine z_iload_n (j := 1) C d_X12_owedTo_10 rfl ?_
  refine z_iconst (v := 5) C d_X12_owedTo_11 (by decide) ?_
  obtain ⟨q12, hF, hf⟩ := bd hf
  refine z_callV1 (rest := [aJ q6.1]) C [aI p1, aI 5] rfl (by decide) rfl rfl k_X12_ofStake tw_1490 ⟨by decide, by decide⟩ (Nat.le_of_ble_eq_true rfl) d_X12_owedTo_12 (c_X12_ofStake C.inj hF) rfl ?_
  refine z_aload_n (j := 0) C d_X12_owedTo_15 rfl ?_
  refine z_iload_n (j := 1) C d_X12_owedTo_16 rfl ?_
  refine z_bipush (v := 6) C d_X12_owedTo_17 (by decide) ?_
  refine z_iload_n (j := 2) C d_X12_owedTo_19 rfl ?_
  refine z_iadd C d_X12_owedTo_20 ?_
  obtain ⟨q21, hF, hf⟩ := bd hf
  refine z_callV1 (rest := [aJ q12.1, aJ q6.1]) C [aI p1, aI (6 + p2)] rfl (by decide) rfl rfl k_X12_ofStake tw_1490 ⟨by decide, by decide⟩ (Nat.le_of_ble_eq_true rfl) d_X12_owedTo_21 (c_X12_ofStake C.inj hF) rfl ?_
  refine z_lmul C d_X12_owedTo_24 ?_
  refine z_ldc2 (v := 1048576) C tw_1537 d_X12_owedTo_25 ?_
  refine z_ldiv C d_X12_owedTo_28 (by decide) ?_
  refine z_ladd C d_X12_owedTo_29 ?_
  exact r_l C hr d_X12_owedTo_30 hf
theorem d_X12_settles_0 : decode cX12_settles 0 = .ok (.iconst 0, 1) := by decide +kernel
theorem d_X12_settles_1 : decode cX12_settles 1 = .ok (.istore_n 2, 1) := by decide +kernel
theorem d_X12_settles_2 : decode cX12_settles 2 = .ok (.iload_n 2, 1) := by decide +kernel
theorem d_X12_settles_3 : decode cX12_settles 3 = .ok (.iconst 2, 1) := by decide +kernel
theorem d_X12_settles_4 : decode cX12_settles 4 = .ok (.if_icmp .ge 34, 3) := by decide +kernel
theorem d_X12_settles_7 : decode cX12_settles 7 = .ok (.aload_n 0, 1) := by decide +kernel
theorem d_X12_settles_8 : decode cX12_settles 8 = .ok (.iload_n 1, 1) := by decide +kernel
theorem d_X12_settles_9 : decode cX12_settles 9 = .ok (.bipush 8, 2) := by decide +kernel
theorem d_X12_settles_11 : decode cX12_settles 11 = .ok (.iload_n 2, 1) := by decide +kernel
theorem d_X12_settles_12 : decode cX12_settles 12 = .ok (.iadd, 1) := by decide +kernel
theorem d_X12_settles_13 : decode cX12_settles 13 = .ok (.aload_n 0, 1) := by decide +kernel
theorem d_X12_settles_14 : decode cX12_settles 14 = .ok (.iload_n 1, 1) := by decide +kernel
theorem d_X12_settles_15 : decode cX12_settles 15 = .ok (.iload_n 2, 1) := by decide +kernel
theorem d_X12_settles_16 : decode cX12_settles 16 = .ok (.invokevirtual 247, 3) := by decide +kernel
theorem d_X12_settles_19 : decode cX12_settles 19 = .ok (.invokevirtual 250, 3) := by decide +kernel
theorem d_X12_settles_22 : decode cX12_settles 22 = .ok (.aload_n 0, 1) := by decide +kernel
theorem d_X12_settles_23 : decode cX12_settles 23 = .ok (.iload_n 1, 1) := by decide +kernel
theorem d_X12_settles_24 : decode cX12_settles 24 = .ok (.bipush 6, 2) := by decide +kernel
theorem d_X12_settles_26 : decode cX12_settles 26 = .ok (.iload_n 2, 1) := by decide +kernel
theorem d_X12_settles_27 : decode cX12_settles 27 = .ok (.iadd, 1) := by decide +kernel
theorem d_X12_settles_28 : decode cX12_settles 28 = .ok (.lconst 0, 1) := by decide +kernel
theorem d_X12_settles_29 : decode cX12_settles 29 = .ok (.invokevirtual 250, 3) := by decide +kernel
theorem d_X12_settles_32 : decode cX12_settles 32 = .ok (.iinc 2 1, 3) := by decide +kernel
theorem d_X12_settles_35 : decode cX12_settles 35 = .ok (.goto (-33), 3) := by decide +kernel
theorem d_X12_settles_38 : decode cX12_settles 38 = .ok (.return_, 1) := by decide +kernel
def f_X12_settles_2B (k2 : Int32 → Int32 → Mem → Option (Unit × Mem)) (v1 : Int32) (v2 : Int32) (S : Mem) : Option (Unit × Mem) := (if 2 ≤ v2 then (some ((), S)) else ((f_X12_owedTo v1 v2 S).bind fun q16 => ((f_X12_setStake v1 (8 + v2) q16.1 q16.2).bind fun q19 => ((f_X12_setStake v1 (6 + v2) 0 q19.2).bind fun q29 => (k2 v1 (v2 + 1) q29.2)))))
set_option maxRecDepth 20000 in
theorem t_X12_settles_2B {X : MC} {Γ : GG} (C : CX X Γ cX12_settles 3 "TickPoolsModel" 2 44) (hr : X.2.2.2.2.2.2.2.2.1.sig.returnType = none) {k2 : Int32 → Int32 → Mem → Option (Unit × Mem)} {q : Unit × Mem} (hk2 : ∀ (v1 : Int32) (v2 : Int32) (S : Mem), k2 v1 v2 S = some q → ZZ X Γ 3 (QQ X Γ none q.2) S 2 [(0, aR 20), (1, aI v1), (2, aI v2)] []) (v1 : Int32) (v2 : Int32) (S : Mem) (hf : f_X12_settles_2B k2 v1 v2 S = some q) : ZZ X Γ 3 (QQ X Γ none q.2) S 2 [(0, aR 20), (1, aI v1), (2, aI v2)] [] := by
  unfold f_X12_settles_2B at hf
  refine z_iload_n (j := 2) C d_X12_settles_2 rfl ?_
  refine z_iconst (v := 2) C d_X12_settles_3 (by decide) ?_
  refine z_icmp_ge (tgt := 38) C d_X12_settles_4 (by decide) hf (fun c4 hf => ?_) (fun c4 hf => ?_)
  · exact r_v C hr d_X12_settles_38 hf
  · refine z_aload_n (j := 0) C d_X12_settles_7 rfl ?_
    refine z_iload_n (j := 1) C d_X12_settles_8 rfl ?_
    refine z_bipush (v := 8) C d_X12_settles_9 (by decide) ?_
    refine z_iload_n (j := 2) C d_X12_settles_11 rfl ?_
    refine z_iadd C d_X12_settles_12 ?_
    refine z_aload_n (j := 0) C d_X12_settles_13 rfl ?_
    refine z_iload_n (j := 1) C d_X12_settles_14 rfl ?_
    refine z_iload_n (j := 2) C d_X12_settles_15 rfl ?_
    obtain ⟨q16, hF, hf⟩ := bd hf
    refine z_callV1 (rest := [aI (8 + v2), aI v1, aR 20]) C [aI v1, aI v2] rfl (by decide) rfl rfl k_X12_owedTo tw_1533 ⟨by decide, by decide⟩ (Nat.le_of_ble_eq_true rfl) d_X12_settles_16 (c_X12_owedTo C.inj hF) rfl ?_
    obtain ⟨q19, hF, hf⟩ := bd hf
    refine z_callV0 (rest := []) C [aI v1, aI (8 + v2), aJ q16.1] rfl (by decide) rfl rfl k_X12_setStake tw_1525 ⟨by decide, by decide⟩ (Nat.le_of_ble_eq_true rfl) d_X12_settles_19 (c_X12_setStake C.inj hF) rfl ?_
    refine z_aload_n (j := 0) C d_X12_settles_22 rfl ?_
    refine z_iload_n (j := 1) C d_X12_settles_23 rfl ?_
    refine z_bipush (v := 6) C d_X12_settles_24 (by decide) ?_
    refine z_iload_n (j := 2) C d_X12_settles_26 rfl ?_
    refine z_iadd C d_X12_settles_27 ?_
    refine z_lconst (v := 0) C d_X12_settles_28 (by decide) ?_
    obtain ⟨q29, hF, hf⟩ := bd hf
    refine z_callV0 (rest := []) C [aI v1, aI (6 + v2), aJ 0] rfl (by decide) rfl rfl k_X12_setStake tw_1525 ⟨by decide, by decide⟩ (Nat.le_of_ble_eq_true rfl) d_X12_settles_29 (c_X12_setStake C.inj hF) rfl ?_
    refine z_iinc (j := 2) (v := (v2 + 1)) (lv' := [(2, aI (v2 + 1)), (0, aR 20), (1, aI v1)]) C d_X12_settles_32 rfl rfl (by decide) rfl ?_
    refine z_goto (tgt := 2) C d_X12_settles_35 (by decide) ?_
    exact z_sub [1, 2, 0] rfl (hk2 _ _ _ hf)
def f_X12_settles_2 : Nat → Int32 → Int32 → Mem → Option (Unit × Mem)
  | 0 => fun _ _ _ => none
  | n + 1 => f_X12_settles_2B (f_X12_settles_2 n)
theorem t_X12_settles_2 {X : MC} {Γ : GG} (C : CX X Γ cX12_settles 3 "TickPoolsModel" 2 44) (hr : X.2.2.2.2.2.2.2.2.1.sig.returnType = none) {q : Unit × Mem} : ∀ (n : Nat) (v1 : Int32) (v2 : Int32) (S : Mem) (hf : f_X12_settles_2 n v1 v2 S = some q), ZZ X Γ 3 (QQ X Γ none q.2) S 2 [(0, aR 20), (1, aI v1), (2, aI v2)] []
  | 0, _, _, _, hf => nomatch (show (none : Option (Unit × Mem)) = some q from hf)
  | n + 1, v1, v2, S, hf => t_X12_settles_2B C hr (t_X12_settles_2 C hr n) v1 v2 S hf
/-- TickPoolsModel.settles(I)V -/
def f_X12_settles (p1 : Int32) (S : Mem) : Option (Unit × Mem) := (f_X12_settles_2  100000 p1 0 S)
set_option maxRecDepth 20000 in
theorem c_X12_settles {l : Launch} {Γ : GG} (hI : Inj Γ) {p1 : Int32} {S : Mem} {q : Unit × Mem} (hf : f_X12_settles p1 S = some q) : MM l Γ yX12_settles cX12_settles 3 (none) 2 44 [aR 20, aI p1] S none q.2 := by
  refine met_of hI "TickPoolsModel" rfl (by decide +kernel) (Nat.le_of_ble_eq_true rfl) (fun X hX C hr => ?_)
  unfold f_X12_settles at hf
  show ZZ X Γ 3 _ S 0 [(0, aR 20), (1, aI p1)] []
  refine z_iconst (v := 0) C d_X12_settles_0 (by decide) ?_
  refine z_istore_n (lv' := [(2, aI 0), (0, aR 20), (1, aI p1)]) C d_X12_settles_1 (by decide) rfl ?_
  exact z_sub [1, 2, 0] rfl (t_X12_settles_2 C hr  100000 _ _ _ hf)
theorem d_X12_goesOut_0 : decode cX12_goesOut 0 = .ok (.aload_n 0, 1) := by decide +kernel
theorem d_X12_goesOut_1 : decode cX12_goesOut 1 = .ok (.iload_n 1, 1) := by decide +kernel
theorem d_X12_goesOut_2 : decode cX12_goesOut 2 = .ok (.iconst 2, 1) := by decide +kernel
theorem d_X12_goesOut_3 : decode cX12_goesOut 3 = .ok (.iload_n 3, 1) := by decide +kernel
theorem d_X12_goesOut_4 : decode cX12_goesOut 4 = .ok (.iadd, 1) := by decide +kernel
theorem d_X12_goesOut_5 : decode cX12_goesOut 5 = .ok (.lload 4, 2) := by decide +kernel
theorem d_X12_goesOut_7 : decode cX12_goesOut 7 = .ok (.lneg, 1) := by decide +kernel
theorem d_X12_goesOut_8 : decode cX12_goesOut 8 = .ok (.invokevirtual 253, 3) := by decide +kernel
theorem d_X12_goesOut_11 : decode cX12_goesOut 11 = .ok (.aload_n 0, 1) := by decide +kernel
theorem d_X12_goesOut_12 : decode cX12_goesOut 12 = .ok (.iload_n 2, 1) := by decide +kernel
theorem d_X12_goesOut_13 : decode cX12_goesOut 13 = .ok (.aload_n 0, 1) := by decide +kernel
theorem d_X12_goesOut_14 : decode cX12_goesOut 14 = .ok (.iload_n 1, 1) := by decide +kernel
theorem d_X12_goesOut_15 : decode cX12_goesOut 15 = .ok (.iload_n 3, 1) := by decide +kernel
theorem d_X12_goesOut_16 : decode cX12_goesOut 16 = .ok (.invokevirtual 256, 3) := by decide +kernel
theorem d_X12_goesOut_19 : decode cX12_goesOut 19 = .ok (.lload 4, 2) := by decide +kernel
theorem d_X12_goesOut_21 : decode cX12_goesOut 21 = .ok (.invokevirtual 260, 3) := by decide +kernel
theorem d_X12_goesOut_24 : decode cX12_goesOut 24 = .ok (.return_, 1) := by decide +kernel
/-- TickPoolsModel.goesOut(IIIJ)V -/
def f_X12_goesOut (p1 : Int32) (p2 : Int32) (p3 : Int32) (p4 : Int64) (S : Mem) : Option (Unit × Mem) := ((f_X12_morePool p1 (2 + p3) (-p4) S).bind fun q8 => ((f_X12_thingOf p1 p3 q8.2).bind fun q16 => ((f_X12_morePurse p2 q16.1 p4 q16.2).bind fun q21 => (some ((), q21.2)))))
set_option maxRecDepth 20000 in
theorem c_X12_goesOut {l : Launch} {Γ : GG} (hI : Inj Γ) {p1 : Int32} {p2 : Int32} {p3 : Int32} {p4 : Int64} {S : Mem} {q : Unit × Mem} (hf : f_X12_goesOut p1 p2 p3 p4 S = some q) : MM l Γ yX12_goesOut cX12_goesOut 6 (none) 1 24 [aR 20, aI p1, aI p2, aI p3, aJ p4] S none q.2 := by
  refine met_of hI "TickPoolsModel" rfl (by decide +kernel) (Nat.le_of_ble_eq_true rfl) (fun X hX C hr => ?_)
  unfold f_X12_goesOut at hf
  show ZZ X Γ 6 _ S 0 [(0, aR 20), (1, aI p1), (2, aI p2), (3, aI p3), (4, aJ p4)] []
  refine z_aload_n (j := 0) C d_X12_goesOut_0 rfl ?_
  refine z_iload_n (j := 1) C d_X12_goesOut_1 rfl ?_
  refine z_iconst (v := 2) C d_X12_goesOut_2 (by decide) ?_
  refine z_iload_n (j := 3) C d_X12_goesOut_3 rfl ?_
  refine z_iadd C d_X12_goesOut_4 ?_
  refine z_lload (j := 4) C d_X12_goesOut_5 rfl ?_
  refine z_lneg C d_X12_goesOut_7 ?_
  obtain ⟨q8, hF, hf⟩ := bd hf
  refine z_callV0 (rest := []) C [aI p1, aI (2 + p3), aJ (-p4)] rfl (by decide) rfl rfl k_X12_morePool tw_1542 ⟨by decide, by decide⟩ (Nat.le_of_ble_eq_true rfl) d_X12_goesOut_8 (c_X12_morePool C.inj hF) rfl ?_
  refine z_aload_n (j := 0) C d_X12_goesOut_11 rfl ?_
  refine z_iload_n (j := 2) C d_X12_goesOut_12 rfl ?_
  refine z_aload_n (j := 0) C d_X12_goesOut_13 rfl ?_
  refine z_iload_n (j := 1) C d_X12_goesOut_14 rfl ?_
  refine z_iload_n (j := 3) C d_X12_goesOut_15 rfl ?_
  obtain ⟨q16, hF, hf⟩ := bd hf
  refine z_callV1 (rest := [aI p2, aR 20]) C [aI p1, aI p3] rfl (by decide) rfl rfl k_X12_thingOf tw_1517 ⟨by decide, by decide⟩ (Nat.le_of_ble_eq_true rfl) d_X12_goesOut_16 (c_X12_thingOf C.inj hF) rfl ?_
  refine z_lload (j := 4) C d_X12_goesOut_19 rfl ?_
  obtain ⟨q21, hF, hf⟩ := bd hf
  refine z_callV0 (rest := []) C [aI p2, aI q16.1, aJ p4] rfl (by decide) rfl rfl k_X12_morePurse tw_1546 ⟨by decide, by decide⟩ (Nat.le_of_ble_eq_true rfl) d_X12_goesOut_21 (c_X12_morePurse C.inj hF) rfl ?_
  exact r_v C hr d_X12_goesOut_24 hf
theorem d_X12_paysOut_0 : decode cX12_paysOut 0 = .ok (.lconst 0, 1) := by decide +kernel
theorem d_X12_paysOut_1 : decode cX12_paysOut 1 = .ok (.lstore_n 2, 1) := by decide +kernel
theorem d_X12_paysOut_2 : decode cX12_paysOut 2 = .ok (.iconst 0, 1) := by decide +kernel
theorem d_X12_paysOut_3 : decode cX12_paysOut 3 = .ok (.istore 4, 2) := by decide +kernel
theorem d_X12_paysOut_5 : decode cX12_paysOut 5 = .ok (.iload 4, 2) := by decide +kernel
theorem d_X12_paysOut_7 : decode cX12_paysOut 7 = .ok (.iconst 2, 1) := by decide +kernel
theorem d_X12_paysOut_8 : decode cX12_paysOut 8 = .ok (.if_icmp .ge 59, 3) := by decide +kernel
theorem d_X12_paysOut_11 : decode cX12_paysOut 11 = .ok (.aload_n 0, 1) := by decide +kernel
theorem d_X12_paysOut_12 : decode cX12_paysOut 12 = .ok (.iload_n 1, 1) := by decide +kernel
theorem d_X12_paysOut_13 : decode cX12_paysOut 13 = .ok (.bipush 8, 2) := by decide +kernel
theorem d_X12_paysOut_15 : decode cX12_paysOut 15 = .ok (.iload 4, 2) := by decide +kernel
theorem d_X12_paysOut_17 : decode cX12_paysOut 17 = .ok (.iadd, 1) := by decide +kernel
theorem d_X12_paysOut_18 : decode cX12_paysOut 18 = .ok (.invokevirtual 238, 3) := by decide +kernel
theorem d_X12_paysOut_21 : decode cX12_paysOut 21 = .ok (.lstore 5, 2) := by decide +kernel
theorem d_X12_paysOut_23 : decode cX12_paysOut 23 = .ok (.aload_n 0, 1) := by decide +kernel
theorem d_X12_paysOut_24 : decode cX12_paysOut 24 = .ok (.aload_n 0, 1) := by decide +kernel
theorem d_X12_paysOut_25 : decode cX12_paysOut 25 = .ok (.iload_n 1, 1) := by decide +kernel
theorem d_X12_paysOut_26 : decode cX12_paysOut 26 = .ok (.iconst 1, 1) := by decide +kernel
theorem d_X12_paysOut_27 : decode cX12_paysOut 27 = .ok (.invokevirtual 238, 3) := by decide +kernel
theorem d_X12_paysOut_30 : decode cX12_paysOut 30 = .ok (.l2i, 1) := by decide +kernel
theorem d_X12_paysOut_31 : decode cX12_paysOut 31 = .ok (.aload_n 0, 1) := by decide +kernel
theorem d_X12_paysOut_32 : decode cX12_paysOut 32 = .ok (.iload_n 1, 1) := by decide +kernel
theorem d_X12_paysOut_33 : decode cX12_paysOut 33 = .ok (.iconst 0, 1) := by decide +kernel
theorem d_X12_paysOut_34 : decode cX12_paysOut 34 = .ok (.invokevirtual 238, 3) := by decide +kernel
theorem d_X12_paysOut_37 : decode cX12_paysOut 37 = .ok (.l2i, 1) := by decide +kernel
theorem d_X12_paysOut_38 : decode cX12_paysOut 38 = .ok (.iload 4, 2) := by decide +kernel
theorem d_X12_paysOut_40 : decode cX12_paysOut 40 = .ok (.lload 5, 2) := by decide +kernel
theorem d_X12_paysOut_42 : decode cX12_paysOut 42 = .ok (.invokevirtual 263, 3) := by decide +kernel
theorem d_X12_paysOut_45 : decode cX12_paysOut 45 = .ok (.aload_n 0, 1) := by decide +kernel
theorem d_X12_paysOut_46 : decode cX12_paysOut 46 = .ok (.iload_n 1, 1) := by decide +kernel
theorem d_X12_paysOut_47 : decode cX12_paysOut 47 = .ok (.bipush 8, 2) := by decide +kernel
theorem d_X12_paysOut_49 : decode cX12_paysOut 49 = .ok (.iload 4, 2) := by decide +kernel
theorem d_X12_paysOut_51 : decode cX12_paysOut 51 = .ok (.iadd, 1) := by decide +kernel
theorem d_X12_paysOut_52 : decode cX12_paysOut 52 = .ok (.lconst 0, 1) := by decide +kernel
theorem d_X12_paysOut_53 : decode cX12_paysOut 53 = .ok (.invokevirtual 250, 3) := by decide +kernel
theorem d_X12_paysOut_56 : decode cX12_paysOut 56 = .ok (.lload_n 2, 1) := by decide +kernel
theorem d_X12_paysOut_57 : decode cX12_paysOut 57 = .ok (.lload 5, 2) := by decide +kernel
theorem d_X12_paysOut_59 : decode cX12_paysOut 59 = .ok (.ladd, 1) := by decide +kernel
theorem d_X12_paysOut_60 : decode cX12_paysOut 60 = .ok (.lstore_n 2, 1) := by decide +kernel
theorem d_X12_paysOut_61 : decode cX12_paysOut 61 = .ok (.iinc 4 1, 3) := by decide +kernel
theorem d_X12_paysOut_64 : decode cX12_paysOut 64 = .ok (.goto (-59), 3) := by decide +kernel
theorem d_X12_paysOut_67 : decode cX12_paysOut 67 = .ok (.lload_n 2, 1) := by decide +kernel
theorem d_X12_paysOut_68 : decode cX12_paysOut 68 = .ok (.lreturn, 1) := by decide +kernel
def f_X12_paysOut_61 (k5 : Int32 → Int64 → Int32 → Mem → Option (Int64 × Mem)) (v1 : Int32) (v2 : Int64) (v4 : Int32) (S : Mem) : Option (Int64 × Mem) := (k5 v1 v2 (v4 + 1) S)
set_option maxRecDepth 20000 in
theorem t_X12_paysOut_61 {X : MC} {Γ : GG} (C : CX X Γ cX12_paysOut 7 "TickPoolsModel" 2 49) (hr : X.2.2.2.2.2.2.2.2.1.sig.returnType = some .long) {k5 : Int32 → Int64 → Int32 → Mem → Option (Int64 × Mem)} {q : Int64 × Mem} (hk5 : ∀ (v1 : Int32) (v2 : Int64) (v4 : Int32) (S : Mem), k5 v1 v2 v4 S = some q → ZZ X Γ 7 (QQ X Γ (some (aJ q.1)) q.2) S 5 [(0, aR 20), (1, aI v1), (2, aJ v2), (4, aI v4)] []) (v1 : Int32) (v2 : Int64) (v4 : Int32) (S : Mem) (hf : f_X12_paysOut_61 k5 v1 v2 v4 S = some q) : ZZ X Γ 7 (QQ X Γ (some (aJ q.1)) q.2) S 61 [(0, aR 20), (1, aI v1), (2, aJ v2), (4, aI v4)] [] := by
  unfold f_X12_paysOut_61 at hf
  refine z_iinc (j := 3) (v := (v4 + 1)) (lv' := [(4, aI (v4 + 1)), (0, aR 20), (1, aI v1), (2, aJ v2)]) C d_X12_paysOut_61 rfl rfl (by decide) rfl ?_
  refine z_goto (tgt := 5) C d_X12_paysOut_64 (by decide) ?_
  exact z_sub [1, 2, 3, 0] rfl (hk5 _ _ _ _ hf)
def f_X12_paysOut_5B (k5 : Int32 → Int64 → Int32 → Mem → Option (Int64 × Mem)) (v1 : Int32) (v2 : Int64) (v4 : Int32) (S : Mem) : Option (Int64 × Mem) := (if 2 ≤ v4 then (some (v2, S)) else ((f_X12_ofStake v1 (8 + v4) S).bind fun q18 => ((f_X12_ofStake v1 1 q18.2).bind fun q27 => ((f_X12_ofStake v1 0 q27.2).bind fun q34 => ((f_X12_goesOut ((q27.1 : Int64).toInt32) ((q34.1 : Int64).toInt32) v4 q18.1 q34.2).bind fun q42 => ((f_X12_setStake v1 (8 + v4) 0 q42.2).bind fun q53 => (f_X12_paysOut_61 k5 v1 (v2 + q18.1) v4 q53.2)))))))
set_option maxRecDepth 20000 in
theorem t_X12_paysOut_5B {X : MC} {Γ : GG} (C : CX X Γ cX12_paysOut 7 "TickPoolsModel" 2 49) (hr : X.2.2.2.2.2.2.2.2.1.sig.returnType = some .long) {k5 : Int32 → Int64 → Int32 → Mem → Option (Int64 × Mem)} {q : Int64 × Mem} (hk5 : ∀ (v1 : Int32) (v2 : Int64) (v4 : Int32) (S : Mem), k5 v1 v2 v4 S = some q → ZZ X Γ 7 (QQ X Γ (some (aJ q.1)) q.2) S 5 [(0, aR 20), (1, aI v1), (2, aJ v2), (4, aI v4)] []) (v1 : Int32) (v2 : Int64) (v4 : Int32) (S : Mem) (hf : f_X12_paysOut_5B k5 v1 v2 v4 S = some q) : ZZ X Γ 7 (QQ X Γ (some (aJ q.1)) q.2) S 5 [(0, aR 20), (1, aI v1), (2, aJ v2), (4, aI v4)] [] := by
  unfold f_X12_paysOut_5B at hf
  refine z_iload (j := 3) C d_X12_paysOut_5 rfl ?_
  refine z_iconst (v := 2) C d_X12_paysOut_7 (by decide) ?_
  refine z_icmp_ge (tgt := 67) C d_X12_paysOut_8 (by decide) hf (fun c8 hf => ?_) (fun c8 hf => ?_)
  · refine z_lload_n (j := 2) C d_X12_paysOut_67 rfl ?_
    exact r_l C hr d_X12_paysOut_68 hf
  · refine z_aload_n (j := 0) C d_X12_paysOut_11 rfl ?_
    refine z_iload_n (j := 1) C d_X12_paysOut_12 rfl ?_
    refine z_bipush (v := 8) C d_X12_paysOut_13 (by decide) ?_
    refine z_iload (j := 3) C d_X12_paysOut_15 rfl ?_
    refine z_iadd C d_X12_paysOut_17 ?_
    obtain ⟨q18, hF, hf⟩ := bd hf
    refine z_callV1 (rest := []) C [aI v1, aI (8 + v4)] rfl (by decide) rfl rfl k_X12_ofStake tw_1490 ⟨by decide, by decide⟩ (Nat.le_of_ble_eq_true rfl) d_X12_paysOut_18 (c_X12_ofStake C.inj hF) rfl ?_
    refine z_lstore (lv' := [(5, aJ q18.1), (0, aR 20), (1, aI v1), (2, aJ v2), (4, aI v4)]) C d_X12_paysOut_21 (by decide) rfl ?_
    refine z_aload_n (j := 1) C d_X12_paysOut_23 rfl ?_
    refine z_aload_n (j := 1) C d_X12_paysOut_24 rfl ?_
    refine z_iload_n (j := 2) C d_X12_paysOut_25 rfl ?_
    refine z_iconst (v := 1) C d_X12_paysOut_26 (by decide) ?_
    obtain ⟨q27, hF, hf⟩ := bd hf
    refine z_callV1 (rest := [aR 20]) C [aI v1, aI 1] rfl (by decide) rfl rfl k_X12_ofStake tw_1490 ⟨by decide, by decide⟩ (Nat.le_of_ble_eq_true rfl) d_X12_paysOut_27 (c_X12_ofStake C.inj hF) rfl ?_
    refine z_l2i C d_X12_paysOut_30 ?_
    refine z_aload_n (j := 1) C d_X12_paysOut_31 rfl ?_
    refine z_iload_n (j := 2) C d_X12_paysOut_32 rfl ?_
    refine z_iconst (v := 0) C d_X12_paysOut_33 (by decide) ?_
    obtain ⟨q34, hF, hf⟩ := bd hf
    refine z_callV1 (rest := [aI ((q27.1 : Int64).toInt32), aR 20]) C [aI v1, aI 0] rfl (by decide) rfl rfl k_X12_ofStake tw_1490 ⟨by decide, by decide⟩ (Nat.le_of_ble_eq_true rfl) d_X12_paysOut_34 (c_X12_ofStake C.inj hF) rfl ?_
    refine z_l2i C d_X12_paysOut_37 ?_
    refine z_iload (j := 4) C d_X12_paysOut_38 rfl ?_
    refine z_lload (j := 0) C d_X12_paysOut_40 rfl ?_
    obtain ⟨q42, hF, hf⟩ := bd hf
    refine z_callV0 (rest := []) C [aI ((q27.1 : Int64).toInt32), aI ((q34.1 : Int64).toInt32), aI v4, aJ q18.1] rfl (by decide) rfl rfl k_X12_goesOut tw_1538 ⟨by decide, by decide⟩ (Nat.le_of_ble_eq_true rfl) d_X12_paysOut_42 (c_X12_goesOut C.inj hF) rfl ?_
    refine z_aload_n (j := 1) C d_X12_paysOut_45 rfl ?_
    refine z_iload_n (j := 2) C d_X12_paysOut_46 rfl ?_
    refine z_bipush (v := 8) C d_X12_paysOut_47 (by decide) ?_
    refine z_iload (j := 4) C d_X12_paysOut_49 rfl ?_
    refine z_iadd C d_X12_paysOut_51 ?_
    refine z_lconst (v := 0) C d_X12_paysOut_52 (by decide) ?_
    obtain ⟨q53, hF, hf⟩ := bd hf
    refine z_callV0 (rest := []) C [aI v1, aI (8 + v4), aJ 0] rfl (by decide) rfl rfl k_X12_setStake tw_1525 ⟨by decide, by decide⟩ (Nat.le_of_ble_eq_true rfl) d_X12_paysOut_53 (c_X12_setStake C.inj hF) rfl ?_
    refine z_lload_n (j := 3) C d_X12_paysOut_56 rfl ?_
    refine z_lload (j := 0) C d_X12_paysOut_57 rfl ?_
    refine z_ladd C d_X12_paysOut_59 ?_
    refine z_lstore_n (lv' := [(2, aJ (v2 + q18.1)), (5, aJ q18.1), (0, aR 20), (1, aI v1), (4, aI v4)]) C d_X12_paysOut_60 (by decide) rfl ?_
    exact z_sub [2, 3, 0, 4] rfl (t_X12_paysOut_61 C hr hk5 _ _ _ _ hf)
def f_X12_paysOut_5 : Nat → Int32 → Int64 → Int32 → Mem → Option (Int64 × Mem)
  | 0 => fun _ _ _ _ => none
  | n + 1 => f_X12_paysOut_5B (f_X12_paysOut_5 n)
theorem t_X12_paysOut_5 {X : MC} {Γ : GG} (C : CX X Γ cX12_paysOut 7 "TickPoolsModel" 2 49) (hr : X.2.2.2.2.2.2.2.2.1.sig.returnType = some .long) {q : Int64 × Mem} : ∀ (n : Nat) (v1 : Int32) (v2 : Int64) (v4 : Int32) (S : Mem) (hf : f_X12_paysOut_5 n v1 v2 v4 S = some q), ZZ X Γ 7 (QQ X Γ (some (aJ q.1)) q.2) S 5 [(0, aR 20), (1, aI v1), (2, aJ v2), (4, aI v4)] []
  | 0, _, _, _, _, hf => nomatch (show (none : Option (Int64 × Mem)) = some q from hf)
  | n + 1, v1, v2, v4, S, hf => t_X12_paysOut_5B C hr (t_X12_paysOut_5 C hr n) v1 v2 v4 S hf
/-- TickPoolsModel.paysOut(I)J -/
def f_X12_paysOut (p1 : Int32) (S : Mem) : Option (Int64 × Mem) := (f_X12_paysOut_5  100000 p1 0 0 S)
set_option maxRecDepth 20000 in
theorem c_X12_paysOut {l : Launch} {Γ : GG} (hI : Inj Γ) {p1 : Int32} {S : Mem} {q : Int64 × Mem} (hf : f_X12_paysOut p1 S = some q) : MM l Γ yX12_paysOut cX12_paysOut 7 (some .long) 2 49 [aR 20, aI p1] S (some (aJ q.1)) q.2 := by
  refine met_of hI "TickPoolsModel" rfl (by decide +kernel) (Nat.le_of_ble_eq_true rfl) (fun X hX C hr => ?_)
  unfold f_X12_paysOut at hf
  show ZZ X Γ 7 _ S 0 [(0, aR 20), (1, aI p1)] []
  refine z_lconst (v := 0) C d_X12_paysOut_0 (by decide) ?_
  refine z_lstore_n (lv' := [(2, aJ 0), (0, aR 20), (1, aI p1)]) C d_X12_paysOut_1 (by decide) rfl ?_
  refine z_iconst (v := 0) C d_X12_paysOut_2 (by decide) ?_
  refine z_istore (lv' := [(4, aI 0), (2, aJ 0), (0, aR 20), (1, aI p1)]) C d_X12_paysOut_3 (by decide) rfl ?_
  exact z_sub [2, 3, 1, 0] rfl (t_X12_paysOut_5 C hr  100000 _ _ _ _ hf)
theorem d_X12_takesOut_0 : decode cX12_takesOut 0 = .ok (.aload_n 0, 1) := by decide +kernel
theorem d_X12_takesOut_1 : decode cX12_takesOut 1 = .ok (.iload_n 1, 1) := by decide +kernel
theorem d_X12_takesOut_2 : decode cX12_takesOut 2 = .ok (.iconst 1, 1) := by decide +kernel
theorem d_X12_takesOut_3 : decode cX12_takesOut 3 = .ok (.invokevirtual 238, 3) := by decide +kernel
theorem d_X12_takesOut_6 : decode cX12_takesOut 6 = .ok (.l2i, 1) := by decide +kernel
theorem d_X12_takesOut_7 : decode cX12_takesOut 7 = .ok (.istore 4, 2) := by decide +kernel
theorem d_X12_takesOut_9 : decode cX12_takesOut 9 = .ok (.aload_n 0, 1) := by decide +kernel
theorem d_X12_takesOut_10 : decode cX12_takesOut 10 = .ok (.iload_n 1, 1) := by decide +kernel
theorem d_X12_takesOut_11 : decode cX12_takesOut 11 = .ok (.invokevirtual 267, 3) := by decide +kernel
theorem d_X12_takesOut_14 : decode cX12_takesOut 14 = .ok (.iconst 0, 1) := by decide +kernel
theorem d_X12_takesOut_15 : decode cX12_takesOut 15 = .ok (.istore 5, 2) := by decide +kernel
theorem d_X12_takesOut_17 : decode cX12_takesOut 17 = .ok (.iload 5, 2) := by decide +kernel
theorem d_X12_takesOut_19 : decode cX12_takesOut 19 = .ok (.iconst 2, 1) := by decide +kernel
theorem d_X12_takesOut_20 : decode cX12_takesOut 20 = .ok (.if_icmp .ge 48, 3) := by decide +kernel
theorem d_X12_takesOut_23 : decode cX12_takesOut 23 = .ok (.aload_n 0, 1) := by decide +kernel
theorem d_X12_takesOut_24 : decode cX12_takesOut 24 = .ok (.iload 4, 2) := by decide +kernel
theorem d_X12_takesOut_26 : decode cX12_takesOut 26 = .ok (.aload_n 0, 1) := by decide +kernel
theorem d_X12_takesOut_27 : decode cX12_takesOut 27 = .ok (.iload_n 1, 1) := by decide +kernel
theorem d_X12_takesOut_28 : decode cX12_takesOut 28 = .ok (.iconst 0, 1) := by decide +kernel
theorem d_X12_takesOut_29 : decode cX12_takesOut 29 = .ok (.invokevirtual 238, 3) := by decide +kernel
theorem d_X12_takesOut_32 : decode cX12_takesOut 32 = .ok (.l2i, 1) := by decide +kernel
theorem d_X12_takesOut_33 : decode cX12_takesOut 33 = .ok (.iload 5, 2) := by decide +kernel
theorem d_X12_takesOut_35 : decode cX12_takesOut 35 = .ok (.aload_n 0, 1) := by decide +kernel
theorem d_X12_takesOut_36 : decode cX12_takesOut 36 = .ok (.iload 4, 2) := by decide +kernel
theorem d_X12_takesOut_38 : decode cX12_takesOut 38 = .ok (.aload_n 0, 1) := by decide +kernel
theorem d_X12_takesOut_39 : decode cX12_takesOut 39 = .ok (.iload_n 1, 1) := by decide +kernel
theorem d_X12_takesOut_40 : decode cX12_takesOut 40 = .ok (.iconst 2, 1) := by decide +kernel
theorem d_X12_takesOut_41 : decode cX12_takesOut 41 = .ok (.invokevirtual 238, 3) := by decide +kernel
theorem d_X12_takesOut_44 : decode cX12_takesOut 44 = .ok (.l2i, 1) := by decide +kernel
theorem d_X12_takesOut_45 : decode cX12_takesOut 45 = .ok (.aload_n 0, 1) := by decide +kernel
theorem d_X12_takesOut_46 : decode cX12_takesOut 46 = .ok (.iload_n 1, 1) := by decide +kernel
theorem d_X12_takesOut_47 : decode cX12_takesOut 47 = .ok (.iconst 3, 1) := by decide +kernel
theorem d_X12_takesOut_48 : decode cX12_takesOut 48 = .ok (.invokevirtual 238, 3) := by decide +kernel
theorem d_X12_takesOut_51 : decode cX12_takesOut 51 = .ok (.l2i, 1) := by decide +kernel
theorem d_X12_takesOut_52 : decode cX12_takesOut 52 = .ok (.lload_n 2, 1) := by decide +kernel
theorem d_X12_takesOut_53 : decode cX12_takesOut 53 = .ok (.iload 5, 2) := by decide +kernel
theorem d_X12_takesOut_55 : decode cX12_takesOut 55 = .ok (.iconst 0, 1) := by decide +kernel
theorem d_X12_takesOut_56 : decode cX12_takesOut 56 = .ok (.invokevirtual 271, 3) := by decide +kernel
theorem d_X12_takesOut_59 : decode cX12_takesOut 59 = .ok (.invokevirtual 263, 3) := by decide +kernel
theorem d_X12_takesOut_62 : decode cX12_takesOut 62 = .ok (.iinc 5 1, 3) := by decide +kernel
theorem d_X12_takesOut_65 : decode cX12_takesOut 65 = .ok (.goto (-48), 3) := by decide +kernel
theorem d_X12_takesOut_68 : decode cX12_takesOut 68 = .ok (.aload_n 0, 1) := by decide +kernel
theorem d_X12_takesOut_69 : decode cX12_takesOut 69 = .ok (.iload_n 1, 1) := by decide +kernel
theorem d_X12_takesOut_70 : decode cX12_takesOut 70 = .ok (.iconst 5, 1) := by decide +kernel
theorem d_X12_takesOut_71 : decode cX12_takesOut 71 = .ok (.aload_n 0, 1) := by decide +kernel
theorem d_X12_takesOut_72 : decode cX12_takesOut 72 = .ok (.iload_n 1, 1) := by decide +kernel
theorem d_X12_takesOut_73 : decode cX12_takesOut 73 = .ok (.iconst 5, 1) := by decide +kernel
theorem d_X12_takesOut_74 : decode cX12_takesOut 74 = .ok (.invokevirtual 238, 3) := by decide +kernel
theorem d_X12_takesOut_77 : decode cX12_takesOut 77 = .ok (.lload_n 2, 1) := by decide +kernel
theorem d_X12_takesOut_78 : decode cX12_takesOut 78 = .ok (.lsub, 1) := by decide +kernel
theorem d_X12_takesOut_79 : decode cX12_takesOut 79 = .ok (.invokevirtual 250, 3) := by decide +kernel
theorem d_X12_takesOut_82 : decode cX12_takesOut 82 = .ok (.aload_n 0, 1) := by decide +kernel
theorem d_X12_takesOut_83 : decode cX12_takesOut 83 = .ok (.iload_n 1, 1) := by decide +kernel
theorem d_X12_takesOut_84 : decode cX12_takesOut 84 = .ok (.iconst 5, 1) := by decide +kernel
theorem d_X12_takesOut_85 : decode cX12_takesOut 85 = .ok (.invokevirtual 238, 3) := by decide +kernel
theorem d_X12_takesOut_88 : decode cX12_takesOut 88 = .ok (.lconst 0, 1) := by decide +kernel
theorem d_X12_takesOut_89 : decode cX12_takesOut 89 = .ok (.lcmp, 1) := by decide +kernel
theorem d_X12_takesOut_90 : decode cX12_takesOut 90 = .ok (.ifCond .le 4, 3) := by decide +kernel
theorem d_X12_takesOut_93 : decode cX12_takesOut 93 = .ok (.return_, 1) := by decide +kernel
theorem d_X12_takesOut_94 : decode cX12_takesOut 94 = .ok (.aload_n 0, 1) := by decide +kernel
theorem d_X12_takesOut_95 : decode cX12_takesOut 95 = .ok (.iload_n 1, 1) := by decide +kernel
theorem d_X12_takesOut_96 : decode cX12_takesOut 96 = .ok (.invokevirtual 275, 3) := by decide +kernel
theorem d_X12_takesOut_99 : decode cX12_takesOut 99 = .ok (.pop2, 1) := by decide +kernel
theorem d_X12_takesOut_100 : decode cX12_takesOut 100 = .ok (.sipush 138, 3) := by decide +kernel
theorem d_X12_takesOut_103 : decode cX12_takesOut 103 = .ok (.bipush 10, 2) := by decide +kernel
theorem d_X12_takesOut_105 : decode cX12_takesOut 105 = .ok (.iload_n 1, 1) := by decide +kernel
theorem d_X12_takesOut_106 : decode cX12_takesOut 106 = .ok (.imul, 1) := by decide +kernel
theorem d_X12_takesOut_107 : decode cX12_takesOut 107 = .ok (.iadd, 1) := by decide +kernel
theorem d_X12_takesOut_108 : decode cX12_takesOut 108 = .ok (.istore 5, 2) := by decide +kernel
theorem d_X12_takesOut_110 : decode cX12_takesOut 110 = .ok (.iload 5, 2) := by decide +kernel
theorem d_X12_takesOut_112 : decode cX12_takesOut 112 = .ok (.sipush 138, 3) := by decide +kernel
theorem d_X12_takesOut_115 : decode cX12_takesOut 115 = .ok (.bipush 10, 2) := by decide +kernel
theorem d_X12_takesOut_117 : decode cX12_takesOut 117 = .ok (.aload_n 0, 1) := by decide +kernel
theorem d_X12_takesOut_118 : decode cX12_takesOut 118 = .ok (.invokevirtual 130, 3) := by decide +kernel
theorem d_X12_takesOut_121 : decode cX12_takesOut 121 = .ok (.iconst 1, 1) := by decide +kernel
theorem d_X12_takesOut_122 : decode cX12_takesOut 122 = .ok (.isub, 1) := by decide +kernel
theorem d_X12_takesOut_123 : decode cX12_takesOut 123 = .ok (.imul, 1) := by decide +kernel
theorem d_X12_takesOut_124 : decode cX12_takesOut 124 = .ok (.iadd, 1) := by decide +kernel
theorem d_X12_takesOut_125 : decode cX12_takesOut 125 = .ok (.if_icmp .ge 26, 3) := by decide +kernel
theorem d_X12_takesOut_128 : decode cX12_takesOut 128 = .ok (.aload_n 0, 1) := by decide +kernel
theorem d_X12_takesOut_129 : decode cX12_takesOut 129 = .ok (.getfield 17, 3) := by decide +kernel
theorem d_X12_takesOut_132 : decode cX12_takesOut 132 = .ok (.iload 5, 2) := by decide +kernel
theorem d_X12_takesOut_134 : decode cX12_takesOut 134 = .ok (.aload_n 0, 1) := by decide +kernel
theorem d_X12_takesOut_135 : decode cX12_takesOut 135 = .ok (.getfield 17, 3) := by decide +kernel
theorem d_X12_takesOut_138 : decode cX12_takesOut 138 = .ok (.iload 5, 2) := by decide +kernel
theorem d_X12_takesOut_140 : decode cX12_takesOut 140 = .ok (.bipush 10, 2) := by decide +kernel
theorem d_X12_takesOut_142 : decode cX12_takesOut 142 = .ok (.iadd, 1) := by decide +kernel
theorem d_X12_takesOut_143 : decode cX12_takesOut 143 = .ok (.laload, 1) := by decide +kernel
theorem d_X12_takesOut_144 : decode cX12_takesOut 144 = .ok (.lastore, 1) := by decide +kernel
theorem d_X12_takesOut_145 : decode cX12_takesOut 145 = .ok (.iinc 5 1, 3) := by decide +kernel
theorem d_X12_takesOut_148 : decode cX12_takesOut 148 = .ok (.goto (-38), 3) := by decide +kernel
theorem d_X12_takesOut_151 : decode cX12_takesOut 151 = .ok (.aload_n 0, 1) := by decide +kernel
theorem d_X12_takesOut_152 : decode cX12_takesOut 152 = .ok (.getfield 17, 3) := by decide +kernel
theorem d_X12_takesOut_155 : decode cX12_takesOut 155 = .ok (.sipush 137, 3) := by decide +kernel
theorem d_X12_takesOut_158 : decode cX12_takesOut 158 = .ok (.dup2, 1) := by decide +kernel
theorem d_X12_takesOut_159 : decode cX12_takesOut 159 = .ok (.laload, 1) := by decide +kernel
theorem d_X12_takesOut_160 : decode cX12_takesOut 160 = .ok (.lconst 1, 1) := by decide +kernel
theorem d_X12_takesOut_161 : decode cX12_takesOut 161 = .ok (.lsub, 1) := by decide +kernel
theorem d_X12_takesOut_162 : decode cX12_takesOut 162 = .ok (.lastore, 1) := by decide +kernel
theorem d_X12_takesOut_163 : decode cX12_takesOut 163 = .ok (.return_, 1) := by decide +kernel
def f_X12_takesOut_110B (k110 : Int32 → Mem → Option (Unit × Mem)) (v5 : Int32) (S : Mem) : Option (Unit × Mem) := ((f_X12_stakes S).bind fun q118 => (if (138 + (10 * (q118.1 - 1))) ≤ v5 then (some ((), (sL q118.2 23 ((137 : Int32).toNatClampNeg) ((gL q118.2 23 ((137 : Int32).toNatClampNeg)) - 1)))) else (if inb (v5 + 10) 258 = true then (if inb v5 258 = true then (k110 (v5 + 1) (sL q118.2 23 ((v5 : Int32).toNatClampNeg) (gL q118.2 23 (((v5 + 10) : Int32).toNatClampNeg)))) else none) else none)))
set_option maxRecDepth 20000 in
theorem t_X12_takesOut_110B {X : MC} {Γ : GG} (C : CX X Γ cX12_takesOut 6 "TickPoolsModel" 3 83) (hr : X.2.2.2.2.2.2.2.2.1.sig.returnType = none) {k110 : Int32 → Mem → Option (Unit × Mem)} {q : Unit × Mem} (hk110 : ∀ (v5 : Int32) (S : Mem), k110 v5 S = some q → ZZ X Γ 6 (QQ X Γ none q.2) S 110 [(0, aR 20), (5, aI v5)] []) (v5 : Int32) (S : Mem) (hf : f_X12_takesOut_110B k110 v5 S = some q) : ZZ X Γ 6 (QQ X Γ none q.2) S 110 [(0, aR 20), (5, aI v5)] [] := by
  unfold f_X12_takesOut_110B at hf
  refine z_iload (j := 1) C d_X12_takesOut_110 rfl ?_
  refine z_sipush (v := 138) C d_X12_takesOut_112 (by decide) ?_
  refine z_bipush (v := 10) C d_X12_takesOut_115 (by decide) ?_
  refine z_aload_n (j := 0) C d_X12_takesOut_117 rfl ?_
  obtain ⟨q118, hF, hf⟩ := bd hf
  refine z_callV1 (rest := [aI 10, aI 138, aI v5]) C [] rfl (by decide) rfl rfl k_X12_stakes tw_1486 ⟨by decide, by decide⟩ (Nat.le_of_ble_eq_true rfl) d_X12_takesOut_118 (c_X12_stakes C.inj hF) rfl ?_
  refine z_iconst (v := 1) C d_X12_takesOut_121 (by decide) ?_
  refine z_isub C d_X12_takesOut_122 ?_
  refine z_imul C d_X12_takesOut_123 ?_
  refine z_iadd C d_X12_takesOut_124 ?_
  refine z_icmp_ge (tgt := 151) C d_X12_takesOut_125 (by decide) hf (fun c125 hf => ?_) (fun c125 hf => ?_)
  · refine z_aload_n (j := 0) C d_X12_takesOut_151 rfl ?_
    refine zg_X12_now C rfl tw_1216 d_X12_takesOut_152 ?_
    refine z_sipush (v := 137) C d_X12_takesOut_155 (by decide) ?_
    refine z_dup2_11 C d_X12_takesOut_158 rfl rfl ?_
    refine z_lald C rfl (by decide) d_X12_takesOut_159 ?_
    refine z_lconst (v := 1) C d_X12_takesOut_160 (by decide) ?_
    refine z_lsub C d_X12_takesOut_161 ?_
    refine z_last C rfl (by decide) d_X12_takesOut_162 ?_
    exact r_v C hr d_X12_takesOut_163 hf
  · refine z_aload_n (j := 0) C d_X12_takesOut_128 rfl ?_
    refine zg_X12_now C rfl tw_1216 d_X12_takesOut_129 ?_
    refine z_iload (j := 1) C d_X12_takesOut_132 rfl ?_
    refine z_aload_n (j := 0) C d_X12_takesOut_134 rfl ?_
    refine zg_X12_now C rfl tw_1216 d_X12_takesOut_135 ?_
    refine z_iload (j := 1) C d_X12_takesOut_138 rfl ?_
    refine z_bipush (v := 10) C d_X12_takesOut_140 (by decide) ?_
    refine z_iadd C d_X12_takesOut_142 ?_
    obtain ⟨hi143_0, hf⟩ := gd hf
    refine z_lald C rfl hi143_0 d_X12_takesOut_143 ?_
    obtain ⟨hi144_1, hf⟩ := gd hf
    refine z_last C rfl hi144_1 d_X12_takesOut_144 ?_
    refine z_iinc (j := 1) (v := (v5 + 1)) (lv' := [(5, aI (v5 + 1)), (0, aR 20)]) C d_X12_takesOut_145 rfl rfl (by decide) rfl ?_
    refine z_goto (tgt := 110) C d_X12_takesOut_148 (by decide) ?_
    exact z_sub [1, 0] rfl (hk110 _ _ hf)
def f_X12_takesOut_110 : Nat → Int32 → Mem → Option (Unit × Mem)
  | 0 => fun _ _ => none
  | n + 1 => f_X12_takesOut_110B (f_X12_takesOut_110 n)
theorem t_X12_takesOut_110 {X : MC} {Γ : GG} (C : CX X Γ cX12_takesOut 6 "TickPoolsModel" 3 83) (hr : X.2.2.2.2.2.2.2.2.1.sig.returnType = none) {q : Unit × Mem} : ∀ (n : Nat) (v5 : Int32) (S : Mem) (hf : f_X12_takesOut_110 n v5 S = some q), ZZ X Γ 6 (QQ X Γ none q.2) S 110 [(0, aR 20), (5, aI v5)] []
  | 0, _, _, hf => nomatch (show (none : Option (Unit × Mem)) = some q from hf)
  | n + 1, v5, S, hf => t_X12_takesOut_110B C hr (t_X12_takesOut_110 C hr n) v5 S hf
def f_X12_takesOut_17B (k17 : Int32 → Int64 → Int32 → Int32 → Mem → Option (Unit × Mem)) (v1 : Int32) (v2 : Int64) (v4 : Int32) (v5 : Int32) (S : Mem) : Option (Unit × Mem) := (if 2 ≤ v5 then ((f_X12_ofStake v1 5 S).bind fun q74 => ((f_X12_setStake v1 5 (q74.1 - v2) q74.2).bind fun q79 => ((f_X12_ofStake v1 5 q79.2).bind fun q85 => (if q85.1 ≤ 0 then ((f_X12_paysOut v1 q85.2).bind fun q96 => (f_X12_takesOut_110  100000 (138 + (10 * v1)) q96.2)) else (some ((), q85.2)))))) else ((f_X12_ofStake v1 0 S).bind fun q29 => ((f_X12_ofStake v1 2 q29.2).bind fun q41 => ((f_X12_ofStake v1 3 q41.2).bind fun q48 => ((f_X12_liesIn v4 ((q41.1 : Int64).toInt32) ((q48.1 : Int64).toInt32) v2 v5 0 q48.2).bind fun q56 => ((f_X12_goesOut v4 ((q29.1 : Int64).toInt32) v5 q56.1 q56.2).bind fun q59 => (k17 v1 v2 v4 (v5 + 1) q59.2)))))))
set_option maxRecDepth 20000 in
theorem t_X12_takesOut_17B {X : MC} {Γ : GG} (C : CX X Γ cX12_takesOut 6 "TickPoolsModel" 3 83) (hr : X.2.2.2.2.2.2.2.2.1.sig.returnType = none) {k17 : Int32 → Int64 → Int32 → Int32 → Mem → Option (Unit × Mem)} {q : Unit × Mem} (hk17 : ∀ (v1 : Int32) (v2 : Int64) (v4 : Int32) (v5 : Int32) (S : Mem), k17 v1 v2 v4 v5 S = some q → ZZ X Γ 6 (QQ X Γ none q.2) S 17 [(0, aR 20), (1, aI v1), (2, aJ v2), (4, aI v4), (5, aI v5)] []) (v1 : Int32) (v2 : Int64) (v4 : Int32) (v5 : Int32) (S : Mem) (hf : f_X12_takesOut_17B k17 v1 v2 v4 v5 S = some q) : ZZ X Γ 6 (QQ X Γ none q.2) S 17 [(0, aR 20), (1, aI v1), (2, aJ v2), (4, aI v4), (5, aI v5)] [] := by
  unfold f_X12_takesOut_17B at hf
  refine z_iload (j := 4) C d_X12_takesOut_17 rfl ?_
  refine z_iconst (v := 2) C d_X12_takesOut_19 (by decide) ?_
  refine z_icmp_ge (tgt := 68) C d_X12_takesOut_20 (by decide) hf (fun c20 hf => ?_) (fun c20 hf => ?_)
  · refine z_aload_n (j := 0) C d_X12_takesOut_68 rfl ?_
    refine z_iload_n (j := 1) C d_X12_takesOut_69 rfl ?_
    refine z_iconst (v := 5) C d_X12_takesOut_70 (by decide) ?_
    refine z_aload_n (j := 0) C d_X12_takesOut_71 rfl ?_
    refine z_iload_n (j := 1) C d_X12_takesOut_72 rfl ?_
    refine z_iconst (v := 5) C d_X12_takesOut_73 (by decide) ?_
    obtain ⟨q74, hF, hf⟩ := bd hf
    refine z_callV1 (rest := [aI 5, aI v1, aR 20]) C [aI v1, aI 5] rfl (by decide) rfl rfl k_X12_ofStake tw_1490 ⟨by decide, by decide⟩ (Nat.le_of_ble_eq_true rfl) d_X12_takesOut_74 (c_X12_ofStake C.inj hF) rfl ?_
    refine z_lload_n (j := 2) C d_X12_takesOut_77 rfl ?_
    refine z_lsub C d_X12_takesOut_78 ?_
    obtain ⟨q79, hF, hf⟩ := bd hf
    refine z_callV0 (rest := []) C [aI v1, aI 5, aJ (q74.1 - v2)] rfl (by decide) rfl rfl k_X12_setStake tw_1525 ⟨by decide, by decide⟩ (Nat.le_of_ble_eq_true rfl) d_X12_takesOut_79 (c_X12_setStake C.inj hF) rfl ?_
    refine z_aload_n (j := 0) C d_X12_takesOut_82 rfl ?_
    refine z_iload_n (j := 1) C d_X12_takesOut_83 rfl ?_
    refine z_iconst (v := 5) C d_X12_takesOut_84 (by decide) ?_
    obtain ⟨q85, hF, hf⟩ := bd hf
    refine z_callV1 (rest := []) C [aI v1, aI 5] rfl (by decide) rfl rfl k_X12_ofStake tw_1490 ⟨by decide, by decide⟩ (Nat.le_of_ble_eq_true rfl) d_X12_takesOut_85 (c_X12_ofStake C.inj hF) rfl ?_
    refine z_lconst (v := 0) C d_X12_takesOut_88 (by decide) ?_
    refine z_lle (tgt := 94) C d_X12_takesOut_89 d_X12_takesOut_90 (by decide) hf (fun c89 hf => ?_) (fun c89 hf => ?_)
    · refine z_aload_n (j := 0) C d_X12_takesOut_94 rfl ?_
      refine z_iload_n (j := 1) C d_X12_takesOut_95 rfl ?_
      obtain ⟨q96, hF, hf⟩ := bd hf
      refine z_callV1 (rest := []) C [aI v1] rfl (by decide) rfl rfl k_X12_paysOut tw_1562 ⟨by decide, by decide⟩ (Nat.le_of_ble_eq_true rfl) d_X12_takesOut_96 (c_X12_paysOut C.inj hF) rfl ?_
      refine z_pop2_2 C d_X12_takesOut_99 rfl ?_
      refine z_sipush (v := 138) C d_X12_takesOut_100 (by decide) ?_
      refine z_bipush (v := 10) C d_X12_takesOut_103 (by decide) ?_
      refine z_iload_n (j := 1) C d_X12_takesOut_105 rfl ?_
      refine z_imul C d_X12_takesOut_106 ?_
      refine z_iadd C d_X12_takesOut_107 ?_
      refine z_istore (lv' := [(5, aI (138 + (10 * v1))), (0, aR 20), (1, aI v1), (2, aJ v2), (4, aI v4)]) C d_X12_takesOut_108 (by decide) rfl ?_
      exact z_sub [1, 0] rfl (t_X12_takesOut_110 C hr  100000 _ _ hf)
    · exact r_v C hr d_X12_takesOut_93 hf
  · refine z_aload_n (j := 0) C d_X12_takesOut_23 rfl ?_
    refine z_iload (j := 3) C d_X12_takesOut_24 rfl ?_
    refine z_aload_n (j := 0) C d_X12_takesOut_26 rfl ?_
    refine z_iload_n (j := 1) C d_X12_takesOut_27 rfl ?_
    refine z_iconst (v := 0) C d_X12_takesOut_28 (by decide) ?_
    obtain ⟨q29, hF, hf⟩ := bd hf
    refine z_callV1 (rest := [aI v4, aR 20]) C [aI v1, aI 0] rfl (by decide) rfl rfl k_X12_ofStake tw_1490 ⟨by decide, by decide⟩ (Nat.le_of_ble_eq_true rfl) d_X12_takesOut_29 (c_X12_ofStake C.inj hF) rfl ?_
    refine z_l2i C d_X12_takesOut_32 ?_
    refine z_iload (j := 4) C d_X12_takesOut_33 rfl ?_
    refine z_aload_n (j := 0) C d_X12_takesOut_35 rfl ?_
    refine z_iload (j := 3) C d_X12_takesOut_36 rfl ?_
    refine z_aload_n (j := 0) C d_X12_takesOut_38 rfl ?_
    refine z_iload_n (j := 1) C d_X12_takesOut_39 rfl ?_
    refine z_iconst (v := 2) C d_X12_takesOut_40 (by decide) ?_
    obtain ⟨q41, hF, hf⟩ := bd hf
    refine z_callV1 (rest := [aI v4, aR 20, aI v5, aI ((q29.1 : Int64).toInt32), aI v4, aR 20]) C [aI v1, aI 2] rfl (by decide) rfl rfl k_X12_ofStake tw_1490 ⟨by decide, by decide⟩ (Nat.le_of_ble_eq_true rfl) d_X12_takesOut_41 (c_X12_ofStake C.inj hF) rfl ?_
    refine z_l2i C d_X12_takesOut_44 ?_
    refine z_aload_n (j := 0) C d_X12_takesOut_45 rfl ?_
    refine z_iload_n (j := 1) C d_X12_takesOut_46 rfl ?_
    refine z_iconst (v := 3) C d_X12_takesOut_47 (by decide) ?_
    obtain ⟨q48, hF, hf⟩ := bd hf
    refine z_callV1 (rest := [aI ((q41.1 : Int64).toInt32), aI v4, aR 20, aI v5, aI ((q29.1 : Int64).toInt32), aI v4, aR 20]) C [aI v1, aI 3] rfl (by decide) rfl rfl k_X12_ofStake tw_1490 ⟨by decide, by decide⟩ (Nat.le_of_ble_eq_true rfl) d_X12_takesOut_48 (c_X12_ofStake C.inj hF) rfl ?_
    refine z_l2i C d_X12_takesOut_51 ?_
    refine z_lload_n (j := 2) C d_X12_takesOut_52 rfl ?_
    refine z_iload (j := 4) C d_X12_takesOut_53 rfl ?_
    refine z_iconst (v := 0) C d_X12_takesOut_55 (by decide) ?_
    obtain ⟨q56, hF, hf⟩ := bd hf
    refine z_callV1 (rest := [aI v5, aI ((q29.1 : Int64).toInt32), aI v4, aR 20]) C [aI v4, aI ((q41.1 : Int64).toInt32), aI ((q48.1 : Int64).toInt32), aJ v2, aI v5, aI 0] rfl (by decide) rfl rfl k_X12_liesIn tw_1495 ⟨by decide, by decide⟩ (Nat.le_of_ble_eq_true rfl) d_X12_takesOut_56 (c_X12_liesIn C.inj hF) rfl ?_
    obtain ⟨q59, hF, hf⟩ := bd hf
    refine z_callV0 (rest := []) C [aI v4, aI ((q29.1 : Int64).toInt32), aI v5, aJ q56.1] rfl (by decide) rfl rfl k_X12_goesOut tw_1538 ⟨by decide, by decide⟩ (Nat.le_of_ble_eq_true rfl) d_X12_takesOut_59 (c_X12_goesOut C.inj hF) rfl ?_
    refine z_iinc (j := 4) (v := (v5 + 1)) (lv' := [(5, aI (v5 + 1)), (0, aR 20), (1, aI v1), (2, aJ v2), (4, aI v4)]) C d_X12_takesOut_62 rfl rfl (by decide) rfl ?_
    refine z_goto (tgt := 17) C d_X12_takesOut_65 (by decide) ?_
    exact z_sub [1, 2, 3, 4, 0] rfl (hk17 _ _ _ _ _ hf)
def f_X12_takesOut_17 : Nat → Int32 → Int64 → Int32 → Int32 → Mem → Option (Unit × Mem)
  | 0 => fun _ _ _ _ _ => none
  | n + 1 => f_X12_takesOut_17B (f_X12_takesOut_17 n)
theorem t_X12_takesOut_17 {X : MC} {Γ : GG} (C : CX X Γ cX12_takesOut 6 "TickPoolsModel" 3 83) (hr : X.2.2.2.2.2.2.2.2.1.sig.returnType = none) {q : Unit × Mem} : ∀ (n : Nat) (v1 : Int32) (v2 : Int64) (v4 : Int32) (v5 : Int32) (S : Mem) (hf : f_X12_takesOut_17 n v1 v2 v4 v5 S = some q), ZZ X Γ 6 (QQ X Γ none q.2) S 17 [(0, aR 20), (1, aI v1), (2, aJ v2), (4, aI v4), (5, aI v5)] []
  | 0, _, _, _, _, _, hf => nomatch (show (none : Option (Unit × Mem)) = some q from hf)
  | n + 1, v1, v2, v4, v5, S, hf => t_X12_takesOut_17B C hr (t_X12_takesOut_17 C hr n) v1 v2 v4 v5 S hf
def f_X12_takesOut_9 (v1 : Int32) (v2 : Int64) (v4 : Int32) (S : Mem) : Option (Unit × Mem) := ((f_X12_settles v1 S).bind fun q11 => (f_X12_takesOut_17  100000 v1 v2 v4 0 q11.2))
set_option maxRecDepth 20000 in
theorem t_X12_takesOut_9 {X : MC} {Γ : GG} (C : CX X Γ cX12_takesOut 6 "TickPoolsModel" 3 83) (hr : X.2.2.2.2.2.2.2.2.1.sig.returnType = none) {q : Unit × Mem} (v1 : Int32) (v2 : Int64) (v4 : Int32) (S : Mem) (hf : f_X12_takesOut_9 v1 v2 v4 S = some q) : ZZ X Γ 6 (QQ X Γ none q.2) S 9 [(0, aR 20), (1, aI v1), (2, aJ v2), (4, aI v4)] [] := by
  unfold f_X12_takesOut_9 at hf
  refine z_aload_n (j := 0) C d_X12_takesOut_9 rfl ?_
  refine z_iload_n (j := 1) C d_X12_takesOut_10 rfl ?_
  obtain ⟨q11, hF, hf⟩ := bd hf
  refine z_callV0 (rest := []) C [aI v1] rfl (by decide) rfl rfl k_X12_settles tw_1529 ⟨by decide, by decide⟩ (Nat.le_of_ble_eq_true rfl) d_X12_takesOut_11 (c_X12_settles C.inj hF) rfl ?_
  refine z_iconst (v := 0) C d_X12_takesOut_14 (by decide) ?_
  refine z_istore (lv' := [(5, aI 0), (0, aR 20), (1, aI v1), (2, aJ v2), (4, aI v4)]) C d_X12_takesOut_15 (by decide) rfl ?_
  exact z_sub [1, 2, 3, 4, 0] rfl (t_X12_takesOut_17 C hr  100000 _ _ _ _ _ hf)
/-- TickPoolsModel.takesOut(IJ)V -/
def f_X12_takesOut (p1 : Int32) (p2 : Int64) (S : Mem) : Option (Unit × Mem) := ((f_X12_ofStake p1 1 S).bind fun q3 => (f_X12_takesOut_9  p1 p2 ((q3.1 : Int64).toInt32) q3.2))
set_option maxRecDepth 20000 in
theorem c_X12_takesOut {l : Launch} {Γ : GG} (hI : Inj Γ) {p1 : Int32} {p2 : Int64} {S : Mem} {q : Unit × Mem} (hf : f_X12_takesOut p1 p2 S = some q) : MM l Γ yX12_takesOut cX12_takesOut 6 (none) 3 83 [aR 20, aI p1, aJ p2] S none q.2 := by
  refine met_of hI "TickPoolsModel" rfl (by decide +kernel) (Nat.le_of_ble_eq_true rfl) (fun X hX C hr => ?_)
  unfold f_X12_takesOut at hf
  show ZZ X Γ 6 _ S 0 [(0, aR 20), (1, aI p1), (2, aJ p2)] []
  refine z_aload_n (j := 0) C d_X12_takesOut_0 rfl ?_
  refine z_iload_n (j := 1) C d_X12_takesOut_1 rfl ?_
  refine z_iconst (v := 1) C d_X12_takesOut_2 (by decide) ?_
  obtain ⟨q3, hF, hf⟩ := bd hf
  refine z_callV1 (rest := []) C [aI p1, aI 1] rfl (by decide) rfl rfl k_X12_ofStake tw_1490 ⟨by decide, by decide⟩ (Nat.le_of_ble_eq_true rfl) d_X12_takesOut_3 (c_X12_ofStake C.inj hF) rfl ?_
  refine z_l2i C d_X12_takesOut_6 ?_
  refine z_istore (lv' := [(4, aI ((q3.1 : Int64).toInt32)), (0, aR 20), (1, aI p1), (2, aJ p2)]) C d_X12_takesOut_7 (by decide) rfl ?_
  exact z_sub [1, 2, 3, 0] rfl (t_X12_takesOut_9 C hr  _ _ _ _ hf)
theorem d_X12_stakeOf_0 : decode cX12_stakeOf 0 = .ok (.iconst 0, 1) := by decide +kernel
theorem d_X12_stakeOf_1 : decode cX12_stakeOf 1 = .ok (.istore 6, 2) := by decide +kernel
theorem d_X12_stakeOf_3 : decode cX12_stakeOf 3 = .ok (.iload 6, 2) := by decide +kernel
theorem d_X12_stakeOf_5 : decode cX12_stakeOf 5 = .ok (.aload_n 0, 1) := by decide +kernel
theorem d_X12_stakeOf_6 : decode cX12_stakeOf 6 = .ok (.invokevirtual 130, 3) := by decide +kernel
theorem d_X12_stakeOf_9 : decode cX12_stakeOf 9 = .ok (.if_icmp .ge 79, 3) := by decide +kernel
theorem d_X12_stakeOf_12 : decode cX12_stakeOf 12 = .ok (.aload_n 0, 1) := by decide +kernel
theorem d_X12_stakeOf_13 : decode cX12_stakeOf 13 = .ok (.iload 6, 2) := by decide +kernel
theorem d_X12_stakeOf_15 : decode cX12_stakeOf 15 = .ok (.iconst 0, 1) := by decide +kernel
theorem d_X12_stakeOf_16 : decode cX12_stakeOf 16 = .ok (.invokevirtual 238, 3) := by decide +kernel
theorem d_X12_stakeOf_19 : decode cX12_stakeOf 19 = .ok (.iload_n 1, 1) := by decide +kernel
theorem d_X12_stakeOf_20 : decode cX12_stakeOf 20 = .ok (.i2l, 1) := by decide +kernel
theorem d_X12_stakeOf_21 : decode cX12_stakeOf 21 = .ok (.lcmp, 1) := by decide +kernel
theorem d_X12_stakeOf_22 : decode cX12_stakeOf 22 = .ok (.ifCond .ne 60, 3) := by decide +kernel
theorem d_X12_stakeOf_25 : decode cX12_stakeOf 25 = .ok (.aload_n 0, 1) := by decide +kernel
theorem d_X12_stakeOf_26 : decode cX12_stakeOf 26 = .ok (.iload 6, 2) := by decide +kernel
theorem d_X12_stakeOf_28 : decode cX12_stakeOf 28 = .ok (.iconst 1, 1) := by decide +kernel
theorem d_X12_stakeOf_29 : decode cX12_stakeOf 29 = .ok (.invokevirtual 238, 3) := by decide +kernel
theorem d_X12_stakeOf_32 : decode cX12_stakeOf 32 = .ok (.iload_n 2, 1) := by decide +kernel
theorem d_X12_stakeOf_33 : decode cX12_stakeOf 33 = .ok (.i2l, 1) := by decide +kernel
theorem d_X12_stakeOf_34 : decode cX12_stakeOf 34 = .ok (.lcmp, 1) := by decide +kernel
theorem d_X12_stakeOf_35 : decode cX12_stakeOf 35 = .ok (.ifCond .ne 47, 3) := by decide +kernel
theorem d_X12_stakeOf_38 : decode cX12_stakeOf 38 = .ok (.aload_n 0, 1) := by decide +kernel
theorem d_X12_stakeOf_39 : decode cX12_stakeOf 39 = .ok (.iload 6, 2) := by decide +kernel
theorem d_X12_stakeOf_41 : decode cX12_stakeOf 41 = .ok (.iconst 2, 1) := by decide +kernel
theorem d_X12_stakeOf_42 : decode cX12_stakeOf 42 = .ok (.invokevirtual 238, 3) := by decide +kernel
theorem d_X12_stakeOf_45 : decode cX12_stakeOf 45 = .ok (.iload_n 3, 1) := by decide +kernel
theorem d_X12_stakeOf_46 : decode cX12_stakeOf 46 = .ok (.i2l, 1) := by decide +kernel
theorem d_X12_stakeOf_47 : decode cX12_stakeOf 47 = .ok (.lcmp, 1) := by decide +kernel
theorem d_X12_stakeOf_48 : decode cX12_stakeOf 48 = .ok (.ifCond .ne 34, 3) := by decide +kernel
theorem d_X12_stakeOf_51 : decode cX12_stakeOf 51 = .ok (.aload_n 0, 1) := by decide +kernel
theorem d_X12_stakeOf_52 : decode cX12_stakeOf 52 = .ok (.iload 6, 2) := by decide +kernel
theorem d_X12_stakeOf_54 : decode cX12_stakeOf 54 = .ok (.iconst 3, 1) := by decide +kernel
theorem d_X12_stakeOf_55 : decode cX12_stakeOf 55 = .ok (.invokevirtual 238, 3) := by decide +kernel
theorem d_X12_stakeOf_58 : decode cX12_stakeOf 58 = .ok (.iload 4, 2) := by decide +kernel
theorem d_X12_stakeOf_60 : decode cX12_stakeOf 60 = .ok (.i2l, 1) := by decide +kernel
theorem d_X12_stakeOf_61 : decode cX12_stakeOf 61 = .ok (.lcmp, 1) := by decide +kernel
theorem d_X12_stakeOf_62 : decode cX12_stakeOf 62 = .ok (.ifCond .ne 20, 3) := by decide +kernel
theorem d_X12_stakeOf_65 : decode cX12_stakeOf 65 = .ok (.aload_n 0, 1) := by decide +kernel
theorem d_X12_stakeOf_66 : decode cX12_stakeOf 66 = .ok (.iload 6, 2) := by decide +kernel
theorem d_X12_stakeOf_68 : decode cX12_stakeOf 68 = .ok (.iconst 4, 1) := by decide +kernel
theorem d_X12_stakeOf_69 : decode cX12_stakeOf 69 = .ok (.invokevirtual 238, 3) := by decide +kernel
theorem d_X12_stakeOf_72 : decode cX12_stakeOf 72 = .ok (.iload 5, 2) := by decide +kernel
theorem d_X12_stakeOf_74 : decode cX12_stakeOf 74 = .ok (.i2l, 1) := by decide +kernel
theorem d_X12_stakeOf_75 : decode cX12_stakeOf 75 = .ok (.lcmp, 1) := by decide +kernel
theorem d_X12_stakeOf_76 : decode cX12_stakeOf 76 = .ok (.ifCond .ne 6, 3) := by decide +kernel
theorem d_X12_stakeOf_79 : decode cX12_stakeOf 79 = .ok (.iload 6, 2) := by decide +kernel
theorem d_X12_stakeOf_81 : decode cX12_stakeOf 81 = .ok (.ireturn, 1) := by decide +kernel
theorem d_X12_stakeOf_82 : decode cX12_stakeOf 82 = .ok (.iinc 6 1, 3) := by decide +kernel
theorem d_X12_stakeOf_85 : decode cX12_stakeOf 85 = .ok (.goto (-82), 3) := by decide +kernel
theorem d_X12_stakeOf_88 : decode cX12_stakeOf 88 = .ok (.iconst (-1), 1) := by decide +kernel
theorem d_X12_stakeOf_89 : decode cX12_stakeOf 89 = .ok (.ireturn, 1) := by decide +kernel
def f_X12_stakeOf_82 (k3 : Int32 → Int32 → Int32 → Int32 → Int32 → Int32 → Mem → Option (Int32 × Mem)) (v1 : Int32) (v2 : Int32) (v3 : Int32) (v4 : Int32) (v5 : Int32) (v6 : Int32) (S : Mem) : Option (Int32 × Mem) := (k3 v1 v2 v3 v4 v5 (v6 + 1) S)
set_option maxRecDepth 20000 in
theorem t_X12_stakeOf_82 {X : MC} {Γ : GG} (C : CX X Γ cX12_stakeOf 7 "TickPoolsModel" 1 22) (hr : X.2.2.2.2.2.2.2.2.1.sig.returnType = some .int) {k3 : Int32 → Int32 → Int32 → Int32 → Int32 → Int32 → Mem → Option (Int32 × Mem)} {q : Int32 × Mem} (hk3 : ∀ (v1 : Int32) (v2 : Int32) (v3 : Int32) (v4 : Int32) (v5 : Int32) (v6 : Int32) (S : Mem), k3 v1 v2 v3 v4 v5 v6 S = some q → ZZ X Γ 7 (QQ X Γ (some (aI q.1)) q.2) S 3 [(0, aR 20), (1, aI v1), (2, aI v2), (3, aI v3), (4, aI v4), (5, aI v5), (6, aI v6)] []) (v1 : Int32) (v2 : Int32) (v3 : Int32) (v4 : Int32) (v5 : Int32) (v6 : Int32) (S : Mem) (hf : f_X12_stakeOf_82 k3 v1 v2 v3 v4 v5 v6 S = some q) : ZZ X Γ 7 (QQ X Γ (some (aI q.1)) q.2) S 82 [(0, aR 20), (1, aI v1), (2, aI v2), (3, aI v3), (4, aI v4), (5, aI v5), (6, aI v6)] [] := by
  unfold f_X12_stakeOf_82 at hf
  refine z_iinc (j := 6) (v := (v6 + 1)) (lv' := [(6, aI (v6 + 1)), (0, aR 20), (1, aI v1), (2, aI v2), (3, aI v3), (4, aI v4), (5, aI v5)]) C d_X12_stakeOf_82 rfl rfl (by decide) rfl ?_
  refine z_goto (tgt := 3) C d_X12_stakeOf_85 (by decide) ?_
  exact z_sub [1, 2, 3, 4, 5, 6, 0] rfl (hk3 _ _ _ _ _ _ _ hf)
def f_X12_stakeOf_3B (k3 : Int32 → Int32 → Int32 → Int32 → Int32 → Int32 → Mem → Option (Int32 × Mem)) (v1 : Int32) (v2 : Int32) (v3 : Int32) (v4 : Int32) (v5 : Int32) (v6 : Int32) (S : Mem) : Option (Int32 × Mem) := ((f_X12_stakes S).bind fun q6 => (if q6.1 ≤ v6 then (some ((-1), q6.2)) else ((f_X12_ofStake v6 0 q6.2).bind fun q16 => (if q16.1 = (v1.toInt64) then ((f_X12_ofStake v6 1 q16.2).bind fun q29 => (if q29.1 = (v2.toInt64) then ((f_X12_ofStake v6 2 q29.2).bind fun q42 => (if q42.1 = (v3.toInt64) then ((f_X12_ofStake v6 3 q42.2).bind fun q55 => (if q55.1 = (v4.toInt64) then ((f_X12_ofStake v6 4 q55.2).bind fun q69 => (if q69.1 = (v5.toInt64) then (some (v6, q69.2)) else (f_X12_stakeOf_82 k3 v1 v2 v3 v4 v5 v6 q69.2))) else (f_X12_stakeOf_82 k3 v1 v2 v3 v4 v5 v6 q55.2))) else (f_X12_stakeOf_82 k3 v1 v2 v3 v4 v5 v6 q42.2))) else (f_X12_stakeOf_82 k3 v1 v2 v3 v4 v5 v6 q29.2))) else (f_X12_stakeOf_82 k3 v1 v2 v3 v4 v5 v6 q16.2)))))
set_option maxRecDepth 20000 in
theorem t_X12_stakeOf_3B {X : MC} {Γ : GG} (C : CX X Γ cX12_stakeOf 7 "TickPoolsModel" 1 22) (hr : X.2.2.2.2.2.2.2.2.1.sig.returnType = some .int) {k3 : Int32 → Int32 → Int32 → Int32 → Int32 → Int32 → Mem → Option (Int32 × Mem)} {q : Int32 × Mem} (hk3 : ∀ (v1 : Int32) (v2 : Int32) (v3 : Int32) (v4 : Int32) (v5 : Int32) (v6 : Int32) (S : Mem), k3 v1 v2 v3 v4 v5 v6 S = some q → ZZ X Γ 7 (QQ X Γ (some (aI q.1)) q.2) S 3 [(0, aR 20), (1, aI v1), (2, aI v2), (3, aI v3), (4, aI v4), (5, aI v5), (6, aI v6)] []) (v1 : Int32) (v2 : Int32) (v3 : Int32) (v4 : Int32) (v5 : Int32) (v6 : Int32) (S : Mem) (hf : f_X12_stakeOf_3B k3 v1 v2 v3 v4 v5 v6 S = some q) : ZZ X Γ 7 (QQ X Γ (some (aI q.1)) q.2) S 3 [(0, aR 20), (1, aI v1), (2, aI v2), (3, aI v3), (4, aI v4), (5, aI v5), (6, aI v6)] [] := by
  unfold f_X12_stakeOf_3B at hf
  refine z_iload (j := 6) C d_X12_stakeOf_3 rfl ?_
  refine z_aload_n (j := 0) C d_X12_stakeOf_5 rfl ?_
  obtain ⟨q6, hF, hf⟩ := bd hf
  refine z_callV1 (rest := [aI v6]) C [] rfl (by decide) rfl rfl k_X12_stakes tw_1486 ⟨by decide, by decide⟩ (Nat.le_of_ble_eq_true rfl) d_X12_stakeOf_6 (c_X12_stakes C.inj hF) rfl ?_
  refine z_icmp_ge (tgt := 88) C d_X12_stakeOf_9 (by decide) hf (fun c9 hf => ?_) (fun c9 hf => ?_)
  · refine z_iconst (v := (-1)) C d_X12_stakeOf_88 (by decide) ?_
    exact r_i C hr rfl d_X12_stakeOf_89 hf
  · refine z_aload_n (j := 0) C d_X12_stakeOf_12 rfl ?_
    refine z_iload (j := 6) C d_X12_stakeOf_13 rfl ?_
    refine z_iconst (v := 0) C d_X12_stakeOf_15 (by decide) ?_
    obtain ⟨q16, hF, hf⟩ := bd hf
    refine z_callV1 (rest := []) C [aI v6, aI 0] rfl (by decide) rfl rfl k_X12_ofStake tw_1490 ⟨by decide, by decide⟩ (Nat.le_of_ble_eq_true rfl) d_X12_stakeOf_16 (c_X12_ofStake C.inj hF) rfl ?_
    refine z_iload_n (j := 1) C d_X12_stakeOf_19 rfl ?_
    refine z_i2l C d_X12_stakeOf_20 ?_
    refine z_lne (tgt := 82) C d_X12_stakeOf_21 d_X12_stakeOf_22 (by decide) hf (fun c21 hf => ?_) (fun c21 hf => ?_)
    · exact z_sub [0, 1, 2, 3, 4, 5, 6] rfl (t_X12_stakeOf_82 C hr hk3 _ _ _ _ _ _ _ hf)
    · refine z_aload_n (j := 0) C d_X12_stakeOf_25 rfl ?_
      refine z_iload (j := 6) C d_X12_stakeOf_26 rfl ?_
      refine z_iconst (v := 1) C d_X12_stakeOf_28 (by decide) ?_
      obtain ⟨q29, hF, hf⟩ := bd hf
      refine z_callV1 (rest := []) C [aI v6, aI 1] rfl (by decide) rfl rfl k_X12_ofStake tw_1490 ⟨by decide, by decide⟩ (Nat.le_of_ble_eq_true rfl) d_X12_stakeOf_29 (c_X12_ofStake C.inj hF) rfl ?_
      refine z_iload_n (j := 2) C d_X12_stakeOf_32 rfl ?_
      refine z_i2l C d_X12_stakeOf_33 ?_
      refine z_lne (tgt := 82) C d_X12_stakeOf_34 d_X12_stakeOf_35 (by decide) hf (fun c34 hf => ?_) (fun c34 hf => ?_)
      · exact z_sub [0, 1, 2, 3, 4, 5, 6] rfl (t_X12_stakeOf_82 C hr hk3 _ _ _ _ _ _ _ hf)
      · refine z_aload_n (j := 0) C d_X12_stakeOf_38 rfl ?_
        refine z_iload (j := 6) C d_X12_stakeOf_39 rfl ?_
        refine z_iconst (v := 2) C d_X12_stakeOf_41 (by decide) ?_
        obtain ⟨q42, hF, hf⟩ := bd hf
        refine z_callV1 (rest := []) C [aI v6, aI 2] rfl (by decide) rfl rfl k_X12_ofStake tw_1490 ⟨by decide, by decide⟩ (Nat.le_of_ble_eq_true rfl) d_X12_stakeOf_42 (c_X12_ofStake C.inj hF) rfl ?_
        refine z_iload_n (j := 3) C d_X12_stakeOf_45 rfl ?_
        refine z_i2l C d_X12_stakeOf_46 ?_
        refine z_lne (tgt := 82) C d_X12_stakeOf_47 d_X12_stakeOf_48 (by decide) hf (fun c47 hf => ?_) (fun c47 hf => ?_)
        · exact z_sub [0, 1, 2, 3, 4, 5, 6] rfl (t_X12_stakeOf_82 C hr hk3 _ _ _ _ _ _ _ hf)
        · refine z_aload_n (j := 0) C d_X12_stakeOf_51 rfl ?_
          refine z_iload (j := 6) C d_X12_stakeOf_52 rfl ?_
          refine z_iconst (v := 3) C d_X12_stakeOf_54 (by decide) ?_
          obtain ⟨q55, hF, hf⟩ := bd hf
          refine z_callV1 (rest := []) C [aI v6, aI 3] rfl (by decide) rfl rfl k_X12_ofStake tw_1490 ⟨by decide, by decide⟩ (Nat.le_of_ble_eq_true rfl) d_X12_stakeOf_55 (c_X12_ofStake C.inj hF) rfl ?_
          refine z_iload (j := 4) C d_X12_stakeOf_58 rfl ?_
          refine z_i2l C d_X12_stakeOf_60 ?_
          refine z_lne (tgt := 82) C d_X12_stakeOf_61 d_X12_stakeOf_62 (by decide) hf (fun c61 hf => ?_) (fun c61 hf => ?_)
          · exact z_sub [0, 1, 2, 3, 4, 5, 6] rfl (t_X12_stakeOf_82 C hr hk3 _ _ _ _ _ _ _ hf)
          · refine z_aload_n (j := 0) C d_X12_stakeOf_65 rfl ?_
            refine z_iload (j := 6) C d_X12_stakeOf_66 rfl ?_
            refine z_iconst (v := 4) C d_X12_stakeOf_68 (by decide) ?_
            obtain ⟨q69, hF, hf⟩ := bd hf
            refine z_callV1 (rest := []) C [aI v6, aI 4] rfl (by decide) rfl rfl k_X12_ofStake tw_1490 ⟨by decide, by decide⟩ (Nat.le_of_ble_eq_true rfl) d_X12_stakeOf_69 (c_X12_ofStake C.inj hF) rfl ?_
            refine z_iload (j := 5) C d_X12_stakeOf_72 rfl ?_
            refine z_i2l C d_X12_stakeOf_74 ?_
            refine z_lne (tgt := 82) C d_X12_stakeOf_75 d_X12_stakeOf_76 (by decide) hf (fun c75 hf => ?_) (fun c75 hf => ?_)
            · exact z_sub [0, 1, 2, 3, 4, 5, 6] rfl (t_X12_stakeOf_82 C hr hk3 _ _ _ _ _ _ _ hf)
            · refine z_iload (j := 6) C d_X12_stakeOf_79 rfl ?_
              exact r_i C hr rfl d_X12_stakeOf_81 hf
def f_X12_stakeOf_3 : Nat → Int32 → Int32 → Int32 → Int32 → Int32 → Int32 → Mem → Option (Int32 × Mem)
  | 0 => fun _ _ _ _ _ _ _ => none
  | n + 1 => f_X12_stakeOf_3B (f_X12_stakeOf_3 n)
theorem t_X12_stakeOf_3 {X : MC} {Γ : GG} (C : CX X Γ cX12_stakeOf 7 "TickPoolsModel" 1 22) (hr : X.2.2.2.2.2.2.2.2.1.sig.returnType = some .int) {q : Int32 × Mem} : ∀ (n : Nat) (v1 : Int32) (v2 : Int32) (v3 : Int32) (v4 : Int32) (v5 : Int32) (v6 : Int32) (S : Mem) (hf : f_X12_stakeOf_3 n v1 v2 v3 v4 v5 v6 S = some q), ZZ X Γ 7 (QQ X Γ (some (aI q.1)) q.2) S 3 [(0, aR 20), (1, aI v1), (2, aI v2), (3, aI v3), (4, aI v4), (5, aI v5), (6, aI v6)] []
  | 0, _, _, _, _, _, _, _, hf => nomatch (show (none : Option (Int32 × Mem)) = some q from hf)
  | n + 1, v1, v2, v3, v4, v5, v6, S, hf => t_X12_stakeOf_3B C hr (t_X12_stakeOf_3 C hr n) v1 v2 v3 v4 v5 v6 S hf
/-- TickPoolsModel.stakeOf(IIIII)I -/
def f_X12_stakeOf (p1 : Int32) (p2 : Int32) (p3 : Int32) (p4 : Int32) (p5 : Int32) (S : Mem) : Option (Int32 × Mem) := (f_X12_stakeOf_3  100000 p1 p2 p3 p4 p5 0 S)
set_option maxRecDepth 20000 in
theorem c_X12_stakeOf {l : Launch} {Γ : GG} (hI : Inj Γ) {p1 : Int32} {p2 : Int32} {p3 : Int32} {p4 : Int32} {p5 : Int32} {S : Mem} {q : Int32 × Mem} (hf : f_X12_stakeOf p1 p2 p3 p4 p5 S = some q) : MM l Γ yX12_stakeOf cX12_stakeOf 7 (some .int) 1 22 [aR 20, aI p1, aI p2, aI p3, aI p4, aI p5] S (some (aI q.1)) q.2 := by
  refine met_of hI "TickPoolsModel" rfl (by decide +kernel) (Nat.le_of_ble_eq_true rfl) (fun X hX C hr => ?_)
  unfold f_X12_stakeOf at hf
  show ZZ X Γ 7 _ S 0 [(0, aR 20), (1, aI p1), (2, aI p2), (3, aI p3), (4, aI p4), (5, aI p5)] []
  refine z_iconst (v := 0) C d_X12_stakeOf_0 (by decide) ?_
  refine z_istore (lv' := [(6, aI 0), (0, aR 20), (1, aI p1), (2, aI p2), (3, aI p3), (4, aI p4), (5, aI p5)]) C d_X12_stakeOf_1 (by decide) rfl ?_
  exact z_sub [1, 2, 3, 4, 5, 6, 0] rfl (t_X12_stakeOf_3 C hr  100000 _ _ _ _ _ _ _ hf)
theorem d_X12_areTicks_0 : decode cX12_areTicks 0 = .ok (.aload_n 0, 1) := by decide +kernel
theorem d_X12_areTicks_1 : decode cX12_areTicks 1 = .ok (.getfield 13, 3) := by decide +kernel
theorem d_X12_areTicks_4 : decode cX12_areTicks 4 = .ok (.iconst 5, 1) := by decide +kernel
theorem d_X12_areTicks_5 : decode cX12_areTicks 5 = .ok (.iload_n 1, 1) := by decide +kernel
theorem d_X12_areTicks_6 : decode cX12_areTicks 6 = .ok (.imul, 1) := by decide +kernel
theorem d_X12_areTicks_7 : decode cX12_areTicks 7 = .ok (.iconst 4, 1) := by decide +kernel
theorem d_X12_areTicks_8 : decode cX12_areTicks 8 = .ok (.iadd, 1) := by decide +kernel
theorem d_X12_areTicks_9 : decode cX12_areTicks 9 = .ok (.iaload, 1) := by decide +kernel
theorem d_X12_areTicks_10 : decode cX12_areTicks 10 = .ok (.istore 4, 2) := by decide +kernel
theorem d_X12_areTicks_12 : decode cX12_areTicks 12 = .ok (.iload_n 2, 1) := by decide +kernel
theorem d_X12_areTicks_13 : decode cX12_areTicks 13 = .ok (.i2l, 1) := by decide +kernel
theorem d_X12_areTicks_14 : decode cX12_areTicks 14 = .ok (.lconst 0, 1) := by decide +kernel
theorem d_X12_areTicks_15 : decode cX12_areTicks 15 = .ok (.ldc2_w 279, 3) := by decide +kernel
theorem d_X12_areTicks_18 : decode cX12_areTicks 18 = .ok (.invokestatic 137, 3) := by decide +kernel
theorem d_X12_areTicks_21 : decode cX12_areTicks 21 = .ok (.ifCond .eq 38, 3) := by decide +kernel
theorem d_X12_areTicks_24 : decode cX12_areTicks 24 = .ok (.iload_n 3, 1) := by decide +kernel
theorem d_X12_areTicks_25 : decode cX12_areTicks 25 = .ok (.i2l, 1) := by decide +kernel
theorem d_X12_areTicks_26 : decode cX12_areTicks 26 = .ok (.lconst 0, 1) := by decide +kernel
theorem d_X12_areTicks_27 : decode cX12_areTicks 27 = .ok (.ldc2_w 279, 3) := by decide +kernel
theorem d_X12_areTicks_30 : decode cX12_areTicks 30 = .ok (.invokestatic 137, 3) := by decide +kernel
theorem d_X12_areTicks_33 : decode cX12_areTicks 33 = .ok (.ifCond .eq 26, 3) := by decide +kernel
theorem d_X12_areTicks_36 : decode cX12_areTicks 36 = .ok (.iload_n 2, 1) := by decide +kernel
theorem d_X12_areTicks_37 : decode cX12_areTicks 37 = .ok (.iload_n 3, 1) := by decide +kernel
theorem d_X12_areTicks_38 : decode cX12_areTicks 38 = .ok (.if_icmp .ge 21, 3) := by decide +kernel
theorem d_X12_areTicks_41 : decode cX12_areTicks 41 = .ok (.iload_n 2, 1) := by decide +kernel
theorem d_X12_areTicks_42 : decode cX12_areTicks 42 = .ok (.iload 4, 2) := by decide +kernel
theorem d_X12_areTicks_44 : decode cX12_areTicks 44 = .ok (.irem, 1) := by decide +kernel
theorem d_X12_areTicks_45 : decode cX12_areTicks 45 = .ok (.ifCond .ne 14, 3) := by decide +kernel
theorem d_X12_areTicks_48 : decode cX12_areTicks 48 = .ok (.iload_n 3, 1) := by decide +kernel
theorem d_X12_areTicks_49 : decode cX12_areTicks 49 = .ok (.iload 4, 2) := by decide +kernel
theorem d_X12_areTicks_51 : decode cX12_areTicks 51 = .ok (.irem, 1) := by decide +kernel
theorem d_X12_areTicks_52 : decode cX12_areTicks 52 = .ok (.ifCond .ne 7, 3) := by decide +kernel
theorem d_X12_areTicks_55 : decode cX12_areTicks 55 = .ok (.iconst 1, 1) := by decide +kernel
theorem d_X12_areTicks_56 : decode cX12_areTicks 56 = .ok (.goto 4, 3) := by decide +kernel
theorem d_X12_areTicks_59 : decode cX12_areTicks 59 = .ok (.iconst 0, 1) := by decide +kernel
theorem d_X12_areTicks_60 : decode cX12_areTicks 60 = .ok (.ireturn, 1) := by decide +kernel
def f_X12_areTicks_60 (s0 : Int32) (S : Mem) : Option (Int32 × Mem) := (if isB s0 = true then (some (s0, S)) else none)
set_option maxRecDepth 20000 in
theorem t_X12_areTicks_60 {X : MC} {Γ : GG} (C : CX X Γ cX12_areTicks 5 "TickPoolsModel" 1 25) (hr : X.2.2.2.2.2.2.2.2.1.sig.returnType = some .boolean) {q : Int32 × Mem} (s0 : Int32) (S : Mem) (hf : f_X12_areTicks_60 s0 S = some q) : ZZ X Γ 5 (QQ X Γ (some (aI q.1)) q.2) S 60 [] [aI s0] := by
  unfold f_X12_areTicks_60 at hf
  obtain ⟨hb60_0, hf⟩ := gd hf
  exact r_i C hr (isB_nar hb60_0).1 d_X12_areTicks_60 hf
def f_X12_areTicks_59 (S : Mem) : Option (Int32 × Mem) := (f_X12_areTicks_60  0 S)
set_option maxRecDepth 20000 in
theorem t_X12_areTicks_59 {X : MC} {Γ : GG} (C : CX X Γ cX12_areTicks 5 "TickPoolsModel" 1 25) (hr : X.2.2.2.2.2.2.2.2.1.sig.returnType = some .boolean) {q : Int32 × Mem} (S : Mem) (hf : f_X12_areTicks_59 S = some q) : ZZ X Γ 5 (QQ X Γ (some (aI q.1)) q.2) S 59 [] [] := by
  unfold f_X12_areTicks_59 at hf
  refine z_iconst (v := 0) C d_X12_areTicks_59 (by decide) ?_
  exact z_sub [] rfl (t_X12_areTicks_60 C hr  _ _ hf)
def f_X12_areTicks_12 (v2 : Int32) (v3 : Int32) (v4 : Int32) (S : Mem) : Option (Int32 × Mem) := ((f_X12_isIn (v2.toInt64) 0 40 S).bind fun q18 => (if q18.1 = 0 then (f_X12_areTicks_59  q18.2) else ((f_X12_isIn (v3.toInt64) 0 40 q18.2).bind fun q30 => (if q30.1 = 0 then (f_X12_areTicks_59  q30.2) else (if v3 ≤ v2 then (f_X12_areTicks_59  q30.2) else (if v4 = 0 then none else (if (v2 % v4) = 0 then (if v4 = 0 then none else (if (v3 % v4) = 0 then (f_X12_areTicks_60  1 q30.2) else (f_X12_areTicks_59  q30.2))) else (f_X12_areTicks_59  q30.2))))))))
set_option maxRecDepth 20000 in
theorem t_X12_areTicks_12 {X : MC} {Γ : GG} (C : CX X Γ cX12_areTicks 5 "TickPoolsModel" 1 25) (hr : X.2.2.2.2.2.2.2.2.1.sig.returnType = some .boolean) {q : Int32 × Mem} (v2 : Int32) (v3 : Int32) (v4 : Int32) (S : Mem) (hf : f_X12_areTicks_12 v2 v3 v4 S = some q) : ZZ X Γ 5 (QQ X Γ (some (aI q.1)) q.2) S 12 [(2, aI v2), (3, aI v3), (4, aI v4)] [] := by
  unfold f_X12_areTicks_12 at hf
  refine z_iload_n (j := 0) C d_X12_areTicks_12 rfl ?_
  refine z_i2l C d_X12_areTicks_13 ?_
  refine z_lconst (v := 0) C d_X12_areTicks_14 (by decide) ?_
  refine z_ldc2 (v := 40) C tw_1479 d_X12_areTicks_15 ?_
  obtain ⟨q18, hF, hf⟩ := bd hf
  refine z_callS1 (rest := []) C [aJ (v2.toInt64), aJ 0, aJ 40] k_X12_isIn tw_1385 ⟨by decide, by decide⟩ (Nat.le_of_ble_eq_true rfl) d_X12_areTicks_18 (c_X12_isIn C.inj hF) rfl ?_
  refine z_if_eq (tgt := 59) C d_X12_areTicks_21 (by decide) hf (fun c21 hf => ?_) (fun c21 hf => ?_)
  · exact z_sub [] rfl (t_X12_areTicks_59 C hr  _ hf)
  · refine z_iload_n (j := 1) C d_X12_areTicks_24 rfl ?_
    refine z_i2l C d_X12_areTicks_25 ?_
    refine z_lconst (v := 0) C d_X12_areTicks_26 (by decide) ?_
    refine z_ldc2 (v := 40) C tw_1479 d_X12_areTicks_27 ?_
    obtain ⟨q30, hF, hf⟩ := bd hf
    refine z_callS1 (rest := []) C [aJ (v3.toInt64), aJ 0, aJ 40] k_X12_isIn tw_1385 ⟨by decide, by decide⟩ (Nat.le_of_ble_eq_true rfl) d_X12_areTicks_30 (c_X12_isIn C.inj hF) rfl ?_
    refine z_if_eq (tgt := 59) C d_X12_areTicks_33 (by decide) hf (fun c33 hf => ?_) (fun c33 hf => ?_)
    · exact z_sub [] rfl (t_X12_areTicks_59 C hr  _ hf)
    · refine z_iload_n (j := 0) C d_X12_areTicks_36 rfl ?_
      refine z_iload_n (j := 1) C d_X12_areTicks_37 rfl ?_
      refine z_icmp_ge (tgt := 59) C d_X12_areTicks_38 (by decide) hf (fun c38 hf => ?_) (fun c38 hf => ?_)
      · exact z_sub [] rfl (t_X12_areTicks_59 C hr  _ hf)
      · refine z_iload_n (j := 0) C d_X12_areTicks_41 rfl ?_
        refine z_iload (j := 2) C d_X12_areTicks_42 rfl ?_
        obtain ⟨hz44, hf⟩ := gdn hf
        refine z_irem C d_X12_areTicks_44 hz44 ?_
        refine z_if_ne (tgt := 59) C d_X12_areTicks_45 (by decide) hf (fun c45 hf => ?_) (fun c45 hf => ?_)
        · exact z_sub [] rfl (t_X12_areTicks_59 C hr  _ hf)
        · refine z_iload_n (j := 1) C d_X12_areTicks_48 rfl ?_
          refine z_iload (j := 2) C d_X12_areTicks_49 rfl ?_
          obtain ⟨hz51, hf⟩ := gdn hf
          refine z_irem C d_X12_areTicks_51 hz51 ?_
          refine z_if_ne (tgt := 59) C d_X12_areTicks_52 (by decide) hf (fun c52 hf => ?_) (fun c52 hf => ?_)
          · exact z_sub [] rfl (t_X12_areTicks_59 C hr  _ hf)
          · refine z_iconst (v := 1) C d_X12_areTicks_55 (by decide) ?_
            refine z_goto (tgt := 60) C d_X12_areTicks_56 (by decide) ?_
            exact z_sub [] rfl (t_X12_areTicks_60 C hr  _ _ hf)
/-- TickPoolsModel.areTicks(III)Z -/
def f_X12_areTicks (p1 : Int32) (p2 : Int32) (p3 : Int32) (S : Mem) : Option (Int32 × Mem) := (if inb ((5 * p1) + 4) 25 = true then (f_X12_areTicks_12  p2 p3 (gI S 22 ((((5 * p1) + 4) : Int32).toNatClampNeg)) S) else none)
set_option maxRecDepth 20000 in
theorem c_X12_areTicks {l : Launch} {Γ : GG} (hI : Inj Γ) {p1 : Int32} {p2 : Int32} {p3 : Int32} {S : Mem} {q : Int32 × Mem} (hf : f_X12_areTicks p1 p2 p3 S = some q) : MM l Γ yX12_areTicks cX12_areTicks 5 (some .boolean) 1 25 [aR 20, aI p1, aI p2, aI p3] S (some (aI q.1)) q.2 := by
  refine met_of hI "TickPoolsModel" rfl (by decide +kernel) (Nat.le_of_ble_eq_true rfl) (fun X hX C hr => ?_)
  unfold f_X12_areTicks at hf
  show ZZ X Γ 5 _ S 0 [(0, aR 20), (1, aI p1), (2, aI p2), (3, aI p3)] []
  refine z_aload_n (j := 0) C d_X12_areTicks_0 rfl ?_
  refine zg_X12_told C rfl tw_1215 d_X12_areTicks_1 ?_
  refine z_iconst (v := 5) C d_X12_areTicks_4 (by decide) ?_
  refine z_iload_n (j := 1) C d_X12_areTicks_5 rfl ?_
  refine z_imul C d_X12_areTicks_6 ?_
  refine z_iconst (v := 4) C d_X12_areTicks_7 (by decide) ?_
  refine z_iadd C d_X12_areTicks_8 ?_
  obtain ⟨hi9_0, hf⟩ := gd hf
  refine z_iald C rfl hi9_0 d_X12_areTicks_9 ?_
  refine z_istore (lv' := [(4, aI (gI S 22 ((((5 * p1) + 4) : Int32).toNatClampNeg))), (0, aR 20), (1, aI p1), (2, aI p2), (3, aI p3)]) C d_X12_areTicks_10 (by decide) rfl ?_
  exact z_sub [3, 4, 0] rfl (t_X12_areTicks_12 C hr  _ _ _ _ hf)
theorem d_X12_adds_0 : decode cX12_adds 0 = .ok (.aload_n 0, 1) := by decide +kernel
theorem d_X12_adds_1 : decode cX12_adds 1 = .ok (.iload_n 1, 1) := by decide +kernel
theorem d_X12_adds_2 : decode cX12_adds 2 = .ok (.invokevirtual 281, 3) := by decide +kernel
theorem d_X12_adds_5 : decode cX12_adds 5 = .ok (.ifCond .eq 48, 3) := by decide +kernel
theorem d_X12_adds_8 : decode cX12_adds 8 = .ok (.aload_n 0, 1) := by decide +kernel
theorem d_X12_adds_9 : decode cX12_adds 9 = .ok (.iload_n 2, 1) := by decide +kernel
theorem d_X12_adds_10 : decode cX12_adds 10 = .ok (.invokevirtual 284, 3) := by decide +kernel
theorem d_X12_adds_13 : decode cX12_adds 13 = .ok (.ifCond .eq 40, 3) := by decide +kernel
theorem d_X12_adds_16 : decode cX12_adds 16 = .ok (.aload_n 0, 1) := by decide +kernel
theorem d_X12_adds_17 : decode cX12_adds 17 = .ok (.iload_n 2, 1) := by decide +kernel
theorem d_X12_adds_18 : decode cX12_adds 18 = .ok (.iload_n 3, 1) := by decide +kernel
theorem d_X12_adds_19 : decode cX12_adds 19 = .ok (.iload 4, 2) := by decide +kernel
theorem d_X12_adds_21 : decode cX12_adds 21 = .ok (.invokevirtual 287, 3) := by decide +kernel
theorem d_X12_adds_24 : decode cX12_adds 24 = .ok (.ifCond .eq 29, 3) := by decide +kernel
theorem d_X12_adds_27 : decode cX12_adds 27 = .ok (.iload 5, 2) := by decide +kernel
theorem d_X12_adds_29 : decode cX12_adds 29 = .ok (.i2l, 1) := by decide +kernel
theorem d_X12_adds_30 : decode cX12_adds 30 = .ok (.lconst 0, 1) := by decide +kernel
theorem d_X12_adds_31 : decode cX12_adds 31 = .ok (.ldc2_w 290, 3) := by decide +kernel
theorem d_X12_adds_34 : decode cX12_adds 34 = .ok (.invokestatic 137, 3) := by decide +kernel
theorem d_X12_adds_37 : decode cX12_adds 37 = .ok (.ifCond .eq 16, 3) := by decide +kernel
theorem d_X12_adds_40 : decode cX12_adds 40 = .ok (.iload 6, 2) := by decide +kernel
theorem d_X12_adds_42 : decode cX12_adds 42 = .ok (.i2l, 1) := by decide +kernel
theorem d_X12_adds_43 : decode cX12_adds 43 = .ok (.lconst 1, 1) := by decide +kernel
theorem d_X12_adds_44 : decode cX12_adds 44 = .ok (.ldc2_w 292, 3) := by decide +kernel
theorem d_X12_adds_47 : decode cX12_adds 47 = .ok (.invokestatic 137, 3) := by decide +kernel
theorem d_X12_adds_50 : decode cX12_adds 50 = .ok (.ifCond .ne 5, 3) := by decide +kernel
theorem d_X12_adds_53 : decode cX12_adds 53 = .ok (.iconst (-1), 1) := by decide +kernel
theorem d_X12_adds_54 : decode cX12_adds 54 = .ok (.ireturn, 1) := by decide +kernel
theorem d_X12_adds_55 : decode cX12_adds 55 = .ok (.aload_n 0, 1) := by decide +kernel
theorem d_X12_adds_56 : decode cX12_adds 56 = .ok (.iload_n 1, 1) := by decide +kernel
theorem d_X12_adds_57 : decode cX12_adds 57 = .ok (.iload_n 2, 1) := by decide +kernel
theorem d_X12_adds_58 : decode cX12_adds 58 = .ok (.iload_n 3, 1) := by decide +kernel
theorem d_X12_adds_59 : decode cX12_adds 59 = .ok (.iload 4, 2) := by decide +kernel
theorem d_X12_adds_61 : decode cX12_adds 61 = .ok (.iload 5, 2) := by decide +kernel
theorem d_X12_adds_63 : decode cX12_adds 63 = .ok (.invokevirtual 294, 3) := by decide +kernel
theorem d_X12_adds_66 : decode cX12_adds 66 = .ok (.istore 7, 2) := by decide +kernel
theorem d_X12_adds_68 : decode cX12_adds 68 = .ok (.iload 7, 2) := by decide +kernel
theorem d_X12_adds_70 : decode cX12_adds 70 = .ok (.ifCond .ge 15, 3) := by decide +kernel
theorem d_X12_adds_73 : decode cX12_adds 73 = .ok (.aload_n 0, 1) := by decide +kernel
theorem d_X12_adds_74 : decode cX12_adds 74 = .ok (.invokevirtual 130, 3) := by decide +kernel
theorem d_X12_adds_77 : decode cX12_adds 77 = .ok (.bipush 12, 2) := by decide +kernel
theorem d_X12_adds_79 : decode cX12_adds 79 = .ok (.if_icmp .ne 26, 3) := by decide +kernel
theorem d_X12_adds_82 : decode cX12_adds 82 = .ok (.goto 21, 3) := by decide +kernel
theorem d_X12_adds_85 : decode cX12_adds 85 = .ok (.aload_n 0, 1) := by decide +kernel
theorem d_X12_adds_86 : decode cX12_adds 86 = .ok (.iload 7, 2) := by decide +kernel
theorem d_X12_adds_88 : decode cX12_adds 88 = .ok (.iconst 5, 1) := by decide +kernel
theorem d_X12_adds_89 : decode cX12_adds 89 = .ok (.invokevirtual 238, 3) := by decide +kernel
theorem d_X12_adds_92 : decode cX12_adds 92 = .ok (.iload 6, 2) := by decide +kernel
theorem d_X12_adds_94 : decode cX12_adds 94 = .ok (.i2l, 1) := by decide +kernel
theorem d_X12_adds_95 : decode cX12_adds 95 = .ok (.ladd, 1) := by decide +kernel
theorem d_X12_adds_96 : decode cX12_adds 96 = .ok (.ldc2_w 298, 3) := by decide +kernel
theorem d_X12_adds_99 : decode cX12_adds 99 = .ok (.lcmp, 1) := by decide +kernel
theorem d_X12_adds_100 : decode cX12_adds 100 = .ok (.ifCond .le 5, 3) := by decide +kernel
theorem d_X12_adds_103 : decode cX12_adds 103 = .ok (.iconst (-1), 1) := by decide +kernel
theorem d_X12_adds_104 : decode cX12_adds 104 = .ok (.ireturn, 1) := by decide +kernel
theorem d_X12_adds_105 : decode cX12_adds 105 = .ok (.iconst 0, 1) := by decide +kernel
theorem d_X12_adds_106 : decode cX12_adds 106 = .ok (.istore 8, 2) := by decide +kernel
theorem d_X12_adds_108 : decode cX12_adds 108 = .ok (.iload 8, 2) := by decide +kernel
theorem d_X12_adds_110 : decode cX12_adds 110 = .ok (.iconst 2, 1) := by decide +kernel
theorem d_X12_adds_111 : decode cX12_adds 111 = .ok (.if_icmp .ge 41, 3) := by decide +kernel
theorem d_X12_adds_114 : decode cX12_adds 114 = .ok (.aload_n 0, 1) := by decide +kernel
theorem d_X12_adds_115 : decode cX12_adds 115 = .ok (.iload_n 2, 1) := by decide +kernel
theorem d_X12_adds_116 : decode cX12_adds 116 = .ok (.iload_n 3, 1) := by decide +kernel
theorem d_X12_adds_117 : decode cX12_adds 117 = .ok (.iload 4, 2) := by decide +kernel
theorem d_X12_adds_119 : decode cX12_adds 119 = .ok (.iload 6, 2) := by decide +kernel
theorem d_X12_adds_121 : decode cX12_adds 121 = .ok (.i2l, 1) := by decide +kernel
theorem d_X12_adds_122 : decode cX12_adds 122 = .ok (.iload 8, 2) := by decide +kernel
theorem d_X12_adds_124 : decode cX12_adds 124 = .ok (.iconst 1, 1) := by decide +kernel
theorem d_X12_adds_125 : decode cX12_adds 125 = .ok (.invokevirtual 271, 3) := by decide +kernel
theorem d_X12_adds_128 : decode cX12_adds 128 = .ok (.aload_n 0, 1) := by decide +kernel
theorem d_X12_adds_129 : decode cX12_adds 129 = .ok (.iload_n 1, 1) := by decide +kernel
theorem d_X12_adds_130 : decode cX12_adds 130 = .ok (.aload_n 0, 1) := by decide +kernel
theorem d_X12_adds_131 : decode cX12_adds 131 = .ok (.iload_n 2, 1) := by decide +kernel
theorem d_X12_adds_132 : decode cX12_adds 132 = .ok (.iload 8, 2) := by decide +kernel
theorem d_X12_adds_134 : decode cX12_adds 134 = .ok (.invokevirtual 256, 3) := by decide +kernel
theorem d_X12_adds_137 : decode cX12_adds 137 = .ok (.invokevirtual 300, 3) := by decide +kernel
theorem d_X12_adds_140 : decode cX12_adds 140 = .ok (.lcmp, 1) := by decide +kernel
theorem d_X12_adds_141 : decode cX12_adds 141 = .ok (.ifCond .le 5, 3) := by decide +kernel
theorem d_X12_adds_144 : decode cX12_adds 144 = .ok (.iconst (-1), 1) := by decide +kernel
theorem d_X12_adds_145 : decode cX12_adds 145 = .ok (.ireturn, 1) := by decide +kernel
theorem d_X12_adds_146 : decode cX12_adds 146 = .ok (.iinc 8 1, 3) := by decide +kernel
theorem d_X12_adds_149 : decode cX12_adds 149 = .ok (.goto (-41), 3) := by decide +kernel
theorem d_X12_adds_152 : decode cX12_adds 152 = .ok (.iload 7, 2) := by decide +kernel
theorem d_X12_adds_154 : decode cX12_adds 154 = .ok (.ifCond .ge 93, 3) := by decide +kernel
theorem d_X12_adds_157 : decode cX12_adds 157 = .ok (.aload_n 0, 1) := by decide +kernel
theorem d_X12_adds_158 : decode cX12_adds 158 = .ok (.invokevirtual 130, 3) := by decide +kernel
theorem d_X12_adds_161 : decode cX12_adds 161 = .ok (.istore 7, 2) := by decide +kernel
theorem d_X12_adds_163 : decode cX12_adds 163 = .ok (.aload_n 0, 1) := by decide +kernel
theorem d_X12_adds_164 : decode cX12_adds 164 = .ok (.getfield 17, 3) := by decide +kernel
theorem d_X12_adds_167 : decode cX12_adds 167 = .ok (.sipush 137, 3) := by decide +kernel
theorem d_X12_adds_170 : decode cX12_adds 170 = .ok (.dup2, 1) := by decide +kernel
theorem d_X12_adds_171 : decode cX12_adds 171 = .ok (.laload, 1) := by decide +kernel
theorem d_X12_adds_172 : decode cX12_adds 172 = .ok (.lconst 1, 1) := by decide +kernel
theorem d_X12_adds_173 : decode cX12_adds 173 = .ok (.ladd, 1) := by decide +kernel
theorem d_X12_adds_174 : decode cX12_adds 174 = .ok (.lastore, 1) := by decide +kernel
theorem d_X12_adds_175 : decode cX12_adds 175 = .ok (.iconst 0, 1) := by decide +kernel
theorem d_X12_adds_176 : decode cX12_adds 176 = .ok (.istore 8, 2) := by decide +kernel
theorem d_X12_adds_178 : decode cX12_adds 178 = .ok (.iload 8, 2) := by decide +kernel
theorem d_X12_adds_180 : decode cX12_adds 180 = .ok (.bipush 10, 2) := by decide +kernel
theorem d_X12_adds_182 : decode cX12_adds 182 = .ok (.if_icmp .ge 18, 3) := by decide +kernel
theorem d_X12_adds_185 : decode cX12_adds 185 = .ok (.aload_n 0, 1) := by decide +kernel
theorem d_X12_adds_186 : decode cX12_adds 186 = .ok (.iload 7, 2) := by decide +kernel
theorem d_X12_adds_188 : decode cX12_adds 188 = .ok (.iload 8, 2) := by decide +kernel
theorem d_X12_adds_190 : decode cX12_adds 190 = .ok (.lconst 0, 1) := by decide +kernel
theorem d_X12_adds_191 : decode cX12_adds 191 = .ok (.invokevirtual 250, 3) := by decide +kernel
theorem d_X12_adds_194 : decode cX12_adds 194 = .ok (.iinc 8 1, 3) := by decide +kernel
theorem d_X12_adds_197 : decode cX12_adds 197 = .ok (.goto (-19), 3) := by decide +kernel
theorem d_X12_adds_200 : decode cX12_adds 200 = .ok (.aload_n 0, 1) := by decide +kernel
theorem d_X12_adds_201 : decode cX12_adds 201 = .ok (.iload 7, 2) := by decide +kernel
theorem d_X12_adds_203 : decode cX12_adds 203 = .ok (.iconst 0, 1) := by decide +kernel
theorem d_X12_adds_204 : decode cX12_adds 204 = .ok (.iload_n 1, 1) := by decide +kernel
theorem d_X12_adds_205 : decode cX12_adds 205 = .ok (.i2l, 1) := by decide +kernel
theorem d_X12_adds_206 : decode cX12_adds 206 = .ok (.invokevirtual 250, 3) := by decide +kernel
theorem d_X12_adds_209 : decode cX12_adds 209 = .ok (.aload_n 0, 1) := by decide +kernel
theorem d_X12_adds_210 : decode cX12_adds 210 = .ok (.iload 7, 2) := by decide +kernel
theorem d_X12_adds_212 : decode cX12_adds 212 = .ok (.iconst 1, 1) := by decide +kernel
theorem d_X12_adds_213 : decode cX12_adds 213 = .ok (.iload_n 2, 1) := by decide +kernel
theorem d_X12_adds_214 : decode cX12_adds 214 = .ok (.i2l, 1) := by decide +kernel
theorem d_X12_adds_215 : decode cX12_adds 215 = .ok (.invokevirtual 250, 3) := by decide +kernel
theorem d_X12_adds_218 : decode cX12_adds 218 = .ok (.aload_n 0, 1) := by decide +kernel
theorem d_X12_adds_219 : decode cX12_adds 219 = .ok (.iload 7, 2) := by decide +kernel
theorem d_X12_adds_221 : decode cX12_adds 221 = .ok (.iconst 2, 1) := by decide +kernel
theorem d_X12_adds_222 : decode cX12_adds 222 = .ok (.iload_n 3, 1) := by decide +kernel
theorem d_X12_adds_223 : decode cX12_adds 223 = .ok (.i2l, 1) := by decide +kernel
theorem d_X12_adds_224 : decode cX12_adds 224 = .ok (.invokevirtual 250, 3) := by decide +kernel
theorem d_X12_adds_227 : decode cX12_adds 227 = .ok (.aload_n 0, 1) := by decide +kernel
theorem d_X12_adds_228 : decode cX12_adds 228 = .ok (.iload 7, 2) := by decide +kernel
theorem d_X12_adds_230 : decode cX12_adds 230 = .ok (.iconst 3, 1) := by decide +kernel
theorem d_X12_adds_231 : decode cX12_adds 231 = .ok (.iload 4, 2) := by decide +kernel
theorem d_X12_adds_233 : decode cX12_adds 233 = .ok (.i2l, 1) := by decide +kernel
theorem d_X12_adds_234 : decode cX12_adds 234 = .ok (.invokevirtual 250, 3) := by decide +kernel
theorem d_X12_adds_237 : decode cX12_adds 237 = .ok (.aload_n 0, 1) := by decide +kernel
theorem d_X12_adds_238 : decode cX12_adds 238 = .ok (.iload 7, 2) := by decide +kernel
theorem d_X12_adds_240 : decode cX12_adds 240 = .ok (.iconst 4, 1) := by decide +kernel
theorem d_X12_adds_241 : decode cX12_adds 241 = .ok (.iload 5, 2) := by decide +kernel
theorem d_X12_adds_243 : decode cX12_adds 243 = .ok (.i2l, 1) := by decide +kernel
theorem d_X12_adds_244 : decode cX12_adds 244 = .ok (.invokevirtual 250, 3) := by decide +kernel
theorem d_X12_adds_247 : decode cX12_adds 247 = .ok (.aload_n 0, 1) := by decide +kernel
theorem d_X12_adds_248 : decode cX12_adds 248 = .ok (.iload 7, 2) := by decide +kernel
theorem d_X12_adds_250 : decode cX12_adds 250 = .ok (.invokevirtual 267, 3) := by decide +kernel
theorem d_X12_adds_253 : decode cX12_adds 253 = .ok (.aload_n 0, 1) := by decide +kernel
theorem d_X12_adds_254 : decode cX12_adds 254 = .ok (.iload 7, 2) := by decide +kernel
theorem d_X12_adds_256 : decode cX12_adds 256 = .ok (.iconst 5, 1) := by decide +kernel
theorem d_X12_adds_257 : decode cX12_adds 257 = .ok (.aload_n 0, 1) := by decide +kernel
theorem d_X12_adds_258 : decode cX12_adds 258 = .ok (.iload 7, 2) := by decide +kernel
theorem d_X12_adds_260 : decode cX12_adds 260 = .ok (.iconst 5, 1) := by decide +kernel
theorem d_X12_adds_261 : decode cX12_adds 261 = .ok (.invokevirtual 238, 3) := by decide +kernel
theorem d_X12_adds_264 : decode cX12_adds 264 = .ok (.iload 6, 2) := by decide +kernel
theorem d_X12_adds_266 : decode cX12_adds 266 = .ok (.i2l, 1) := by decide +kernel
theorem d_X12_adds_267 : decode cX12_adds 267 = .ok (.ladd, 1) := by decide +kernel
theorem d_X12_adds_268 : decode cX12_adds 268 = .ok (.invokevirtual 250, 3) := by decide +kernel
theorem d_X12_adds_271 : decode cX12_adds 271 = .ok (.iconst 0, 1) := by decide +kernel
theorem d_X12_adds_272 : decode cX12_adds 272 = .ok (.istore 8, 2) := by decide +kernel
theorem d_X12_adds_274 : decode cX12_adds 274 = .ok (.iload 8, 2) := by decide +kernel
theorem d_X12_adds_276 : decode cX12_adds 276 = .ok (.iconst 2, 1) := by decide +kernel
theorem d_X12_adds_277 : decode cX12_adds 277 = .ok (.if_icmp .ge 32, 3) := by decide +kernel
theorem d_X12_adds_280 : decode cX12_adds 280 = .ok (.aload_n 0, 1) := by decide +kernel
theorem d_X12_adds_281 : decode cX12_adds 281 = .ok (.iload_n 2, 1) := by decide +kernel
theorem d_X12_adds_282 : decode cX12_adds 282 = .ok (.iload_n 1, 1) := by decide +kernel
theorem d_X12_adds_283 : decode cX12_adds 283 = .ok (.iload 8, 2) := by decide +kernel
theorem d_X12_adds_285 : decode cX12_adds 285 = .ok (.aload_n 0, 1) := by decide +kernel
theorem d_X12_adds_286 : decode cX12_adds 286 = .ok (.iload_n 2, 1) := by decide +kernel
theorem d_X12_adds_287 : decode cX12_adds 287 = .ok (.iload_n 3, 1) := by decide +kernel
theorem d_X12_adds_288 : decode cX12_adds 288 = .ok (.iload 4, 2) := by decide +kernel
theorem d_X12_adds_290 : decode cX12_adds 290 = .ok (.iload 6, 2) := by decide +kernel
theorem d_X12_adds_292 : decode cX12_adds 292 = .ok (.i2l, 1) := by decide +kernel
theorem d_X12_adds_293 : decode cX12_adds 293 = .ok (.iload 8, 2) := by decide +kernel
theorem d_X12_adds_295 : decode cX12_adds 295 = .ok (.iconst 1, 1) := by decide +kernel
theorem d_X12_adds_296 : decode cX12_adds 296 = .ok (.invokevirtual 271, 3) := by decide +kernel
theorem d_X12_adds_299 : decode cX12_adds 299 = .ok (.lneg, 1) := by decide +kernel
theorem d_X12_adds_300 : decode cX12_adds 300 = .ok (.invokevirtual 263, 3) := by decide +kernel
theorem d_X12_adds_303 : decode cX12_adds 303 = .ok (.iinc 8 1, 3) := by decide +kernel
theorem d_X12_adds_306 : decode cX12_adds 306 = .ok (.goto (-32), 3) := by decide +kernel
theorem d_X12_adds_309 : decode cX12_adds 309 = .ok (.iload 7, 2) := by decide +kernel
theorem d_X12_adds_311 : decode cX12_adds 311 = .ok (.ireturn, 1) := by decide +kernel
def f_X12_adds_53 (S : Mem) : Option (Int32 × Mem) := (some ((-1), S))
set_option maxRecDepth 20000 in
theorem t_X12_adds_53 {X : MC} {Γ : GG} (C : CX X Γ cX12_adds 9 "TickPoolsModel" 3 83) (hr : X.2.2.2.2.2.2.2.2.1.sig.returnType = some .int) {q : Int32 × Mem} (S : Mem) (hf : f_X12_adds_53 S = some q) : ZZ X Γ 9 (QQ X Γ (some (aI q.1)) q.2) S 53 [] [] := by
  unfold f_X12_adds_53 at hf
  refine z_iconst (v := (-1)) C d_X12_adds_53 (by decide) ?_
  exact r_i C hr rfl d_X12_adds_54 hf
def f_X12_adds_103 (S : Mem) : Option (Int32 × Mem) := (some ((-1), S))
set_option maxRecDepth 20000 in
theorem t_X12_adds_103 {X : MC} {Γ : GG} (C : CX X Γ cX12_adds 9 "TickPoolsModel" 3 83) (hr : X.2.2.2.2.2.2.2.2.1.sig.returnType = some .int) {q : Int32 × Mem} (S : Mem) (hf : f_X12_adds_103 S = some q) : ZZ X Γ 9 (QQ X Γ (some (aI q.1)) q.2) S 103 [] [] := by
  unfold f_X12_adds_103 at hf
  refine z_iconst (v := (-1)) C d_X12_adds_103 (by decide) ?_
  exact r_i C hr rfl d_X12_adds_104 hf
def f_X12_adds_274B (k274 : Int32 → Int32 → Int32 → Int32 → Int32 → Int32 → Int32 → Mem → Option (Int32 × Mem)) (v1 : Int32) (v2 : Int32) (v3 : Int32) (v4 : Int32) (v6 : Int32) (v7 : Int32) (v8 : Int32) (S : Mem) : Option (Int32 × Mem) := (if 2 ≤ v8 then (some (v7, S)) else ((f_X12_liesIn v2 v3 v4 (v6.toInt64) v8 1 S).bind fun q296 => ((f_X12_goesOut v2 v1 v8 (-q296.1) q296.2).bind fun q300 => (k274 v1 v2 v3 v4 v6 v7 (v8 + 1) q300.2))))
set_option maxRecDepth 20000 in
theorem t_X12_adds_274B {X : MC} {Γ : GG} (C : CX X Γ cX12_adds 9 "TickPoolsModel" 3 83) (hr : X.2.2.2.2.2.2.2.2.1.sig.returnType = some .int) {k274 : Int32 → Int32 → Int32 → Int32 → Int32 → Int32 → Int32 → Mem → Option (Int32 × Mem)} {q : Int32 × Mem} (hk274 : ∀ (v1 : Int32) (v2 : Int32) (v3 : Int32) (v4 : Int32) (v6 : Int32) (v7 : Int32) (v8 : Int32) (S : Mem), k274 v1 v2 v3 v4 v6 v7 v8 S = some q → ZZ X Γ 9 (QQ X Γ (some (aI q.1)) q.2) S 274 [(0, aR 20), (1, aI v1), (2, aI v2), (3, aI v3), (4, aI v4), (6, aI v6), (7, aI v7), (8, aI v8)] []) (v1 : Int32) (v2 : Int32) (v3 : Int32) (v4 : Int32) (v6 : Int32) (v7 : Int32) (v8 : Int32) (S : Mem) (hf : f_X12_adds_274B k274 v1 v2 v3 v4 v6 v7 v8 S = some q) : ZZ X Γ 9 (QQ X Γ (some (aI q.1)) q.2) S 274 [(0, aR 20), (1, aI v1), (2, aI v2), (3, aI v3), (4, aI v4), (6, aI v6), (7, aI v7), (8, aI v8)] [] := by
  unfold f_X12_adds_274B at hf
  refine z_iload (j := 7) C d_X12_adds_274 rfl ?_
  refine z_iconst (v := 2) C d_X12_adds_276 (by decide) ?_
  refine z_icmp_ge (tgt := 309) C d_X12_adds_277 (by decide) hf (fun c277 hf => ?_) (fun c277 hf => ?_)
  · refine z_iload (j := 6) C d_X12_adds_309 rfl ?_
    exact r_i C hr rfl d_X12_adds_311 hf
  · refine z_aload_n (j := 0) C d_X12_adds_280 rfl ?_
    refine z_iload_n (j := 2) C d_X12_adds_281 rfl ?_
    refine z_iload_n (j := 1) C d_X12_adds_282 rfl ?_
    refine z_iload (j := 7) C d_X12_adds_283 rfl ?_
    refine z_aload_n (j := 0) C d_X12_adds_285 rfl ?_
    refine z_iload_n (j := 2) C d_X12_adds_286 rfl ?_
    refine z_iload_n (j := 3) C d_X12_adds_287 rfl ?_
    refine z_iload (j := 4) C d_X12_adds_288 rfl ?_
    refine z_iload (j := 5) C d_X12_adds_290 rfl ?_
    refine z_i2l C d_X12_adds_292 ?_
    refine z_iload (j := 7) C d_X12_adds_293 rfl ?_
    refine z_iconst (v := 1) C d_X12_adds_295 (by decide) ?_
    obtain ⟨q296, hF, hf⟩ := bd hf
    refine z_callV1 (rest := [aI v8, aI v1, aI v2, aR 20]) C [aI v2, aI v3, aI v4, aJ (v6.toInt64), aI v8, aI 1] rfl (by decide) rfl rfl k_X12_liesIn tw_1495 ⟨by decide, by decide⟩ (Nat.le_of_ble_eq_true rfl) d_X12_adds_296 (c_X12_liesIn C.inj hF) rfl ?_
    refine z_lneg C d_X12_adds_299 ?_
    obtain ⟨q300, hF, hf⟩ := bd hf
    refine z_callV0 (rest := []) C [aI v2, aI v1, aI v8, aJ (-q296.1)] rfl (by decide) rfl rfl k_X12_goesOut tw_1538 ⟨by decide, by decide⟩ (Nat.le_of_ble_eq_true rfl) d_X12_adds_300 (c_X12_goesOut C.inj hF) rfl ?_
    refine z_iinc (j := 7) (v := (v8 + 1)) (lv' := [(8, aI (v8 + 1)), (0, aR 20), (1, aI v1), (2, aI v2), (3, aI v3), (4, aI v4), (6, aI v6), (7, aI v7)]) C d_X12_adds_303 rfl rfl (by decide) rfl ?_
    refine z_goto (tgt := 274) C d_X12_adds_306 (by decide) ?_
    exact z_sub [1, 2, 3, 4, 5, 6, 7, 0] rfl (hk274 _ _ _ _ _ _ _ _ hf)
def f_X12_adds_274 : Nat → Int32 → Int32 → Int32 → Int32 → Int32 → Int32 → Int32 → Mem → Option (Int32 × Mem)
  | 0 => fun _ _ _ _ _ _ _ _ => none
  | n + 1 => f_X12_adds_274B (f_X12_adds_274 n)
theorem t_X12_adds_274 {X : MC} {Γ : GG} (C : CX X Γ cX12_adds 9 "TickPoolsModel" 3 83) (hr : X.2.2.2.2.2.2.2.2.1.sig.returnType = some .int) {q : Int32 × Mem} : ∀ (n : Nat) (v1 : Int32) (v2 : Int32) (v3 : Int32) (v4 : Int32) (v6 : Int32) (v7 : Int32) (v8 : Int32) (S : Mem) (hf : f_X12_adds_274 n v1 v2 v3 v4 v6 v7 v8 S = some q), ZZ X Γ 9 (QQ X Γ (some (aI q.1)) q.2) S 274 [(0, aR 20), (1, aI v1), (2, aI v2), (3, aI v3), (4, aI v4), (6, aI v6), (7, aI v7), (8, aI v8)] []
  | 0, _, _, _, _, _, _, _, _, hf => nomatch (show (none : Option (Int32 × Mem)) = some q from hf)
  | n + 1, v1, v2, v3, v4, v6, v7, v8, S, hf => t_X12_adds_274B C hr (t_X12_adds_274 C hr n) v1 v2 v3 v4 v6 v7 v8 S hf
def f_X12_adds_247 (v1 : Int32) (v2 : Int32) (v3 : Int32) (v4 : Int32) (v6 : Int32) (v7 : Int32) (S : Mem) : Option (Int32 × Mem) := ((f_X12_settles v7 S).bind fun q250 => ((f_X12_ofStake v7 5 q250.2).bind fun q261 => ((f_X12_setStake v7 5 (q261.1 + (v6.toInt64)) q261.2).bind fun q268 => (f_X12_adds_274  100000 v1 v2 v3 v4 v6 v7 0 q268.2))))
set_option maxRecDepth 20000 in
theorem t_X12_adds_247 {X : MC} {Γ : GG} (C : CX X Γ cX12_adds 9 "TickPoolsModel" 3 83) (hr : X.2.2.2.2.2.2.2.2.1.sig.returnType = some .int) {q : Int32 × Mem} (v1 : Int32) (v2 : Int32) (v3 : Int32) (v4 : Int32) (v6 : Int32) (v7 : Int32) (S : Mem) (hf : f_X12_adds_247 v1 v2 v3 v4 v6 v7 S = some q) : ZZ X Γ 9 (QQ X Γ (some (aI q.1)) q.2) S 247 [(0, aR 20), (1, aI v1), (2, aI v2), (3, aI v3), (4, aI v4), (6, aI v6), (7, aI v7)] [] := by
  unfold f_X12_adds_247 at hf
  refine z_aload_n (j := 0) C d_X12_adds_247 rfl ?_
  refine z_iload (j := 6) C d_X12_adds_248 rfl ?_
  obtain ⟨q250, hF, hf⟩ := bd hf
  refine z_callV0 (rest := []) C [aI v7] rfl (by decide) rfl rfl k_X12_settles tw_1529 ⟨by decide, by decide⟩ (Nat.le_of_ble_eq_true rfl) d_X12_adds_250 (c_X12_settles C.inj hF) rfl ?_
  refine z_aload_n (j := 0) C d_X12_adds_253 rfl ?_
  refine z_iload (j := 6) C d_X12_adds_254 rfl ?_
  refine z_iconst (v := 5) C d_X12_adds_256 (by decide) ?_
  refine z_aload_n (j := 0) C d_X12_adds_257 rfl ?_
  refine z_iload (j := 6) C d_X12_adds_258 rfl ?_
  refine z_iconst (v := 5) C d_X12_adds_260 (by decide) ?_
  obtain ⟨q261, hF, hf⟩ := bd hf
  refine z_callV1 (rest := [aI 5, aI v7, aR 20]) C [aI v7, aI 5] rfl (by decide) rfl rfl k_X12_ofStake tw_1490 ⟨by decide, by decide⟩ (Nat.le_of_ble_eq_true rfl) d_X12_adds_261 (c_X12_ofStake C.inj hF) rfl ?_
  refine z_iload (j := 5) C d_X12_adds_264 rfl ?_
  refine z_i2l C d_X12_adds_266 ?_
  refine z_ladd C d_X12_adds_267 ?_
  obtain ⟨q268, hF, hf⟩ := bd hf
  refine z_callV0 (rest := []) C [aI v7, aI 5, aJ (q261.1 + (v6.toInt64))] rfl (by decide) rfl rfl k_X12_setStake tw_1525 ⟨by decide, by decide⟩ (Nat.le_of_ble_eq_true rfl) d_X12_adds_268 (c_X12_setStake C.inj hF) rfl ?_
  refine z_iconst (v := 0) C d_X12_adds_271 (by decide) ?_
  refine z_istore (lv' := [(8, aI 0), (0, aR 20), (1, aI v1), (2, aI v2), (3, aI v3), (4, aI v4), (6, aI v6), (7, aI v7)]) C d_X12_adds_272 (by decide) rfl ?_
  exact z_sub [1, 2, 3, 4, 5, 6, 7, 0] rfl (t_X12_adds_274 C hr  100000 _ _ _ _ _ _ _ _ hf)
def f_X12_adds_178B (k178 : Int32 → Int32 → Int32 → Int32 → Int32 → Int32 → Int32 → Int32 → Mem → Option (Int32 × Mem)) (v1 : Int32) (v2 : Int32) (v3 : Int32) (v4 : Int32) (v5 : Int32) (v6 : Int32) (v7 : Int32) (v8 : Int32) (S : Mem) : Option (Int32 × Mem) := (if 10 ≤ v8 then ((f_X12_setStake v7 0 (v1.toInt64) S).bind fun q206 => ((f_X12_setStake v7 1 (v2.toInt64) q206.2).bind fun q215 => ((f_X12_setStake v7 2 (v3.toInt64) q215.2).bind fun q224 => ((f_X12_setStake v7 3 (v4.toInt64) q224.2).bind fun q234 => ((f_X12_setStake v7 4 (v5.toInt64) q234.2).bind fun q244 => (f_X12_adds_247  v1 v2 v3 v4 v6 v7 q244.2)))))) else ((f_X12_setStake v7 v8 0 S).bind fun q191 => (k178 v1 v2 v3 v4 v5 v6 v7 (v8 + 1) q191.2)))
set_option maxRecDepth 20000 in
theorem t_X12_adds_178B {X : MC} {Γ : GG} (C : CX X Γ cX12_adds 9 "TickPoolsModel" 3 83) (hr : X.2.2.2.2.2.2.2.2.1.sig.returnType = some .int) {k178 : Int32 → Int32 → Int32 → Int32 → Int32 → Int32 → Int32 → Int32 → Mem → Option (Int32 × Mem)} {q : Int32 × Mem} (hk178 : ∀ (v1 : Int32) (v2 : Int32) (v3 : Int32) (v4 : Int32) (v5 : Int32) (v6 : Int32) (v7 : Int32) (v8 : Int32) (S : Mem), k178 v1 v2 v3 v4 v5 v6 v7 v8 S = some q → ZZ X Γ 9 (QQ X Γ (some (aI q.1)) q.2) S 178 [(0, aR 20), (1, aI v1), (2, aI v2), (3, aI v3), (4, aI v4), (5, aI v5), (6, aI v6), (7, aI v7), (8, aI v8)] []) (v1 : Int32) (v2 : Int32) (v3 : Int32) (v4 : Int32) (v5 : Int32) (v6 : Int32) (v7 : Int32) (v8 : Int32) (S : Mem) (hf : f_X12_adds_178B k178 v1 v2 v3 v4 v5 v6 v7 v8 S = some q) : ZZ X Γ 9 (QQ X Γ (some (aI q.1)) q.2) S 178 [(0, aR 20), (1, aI v1), (2, aI v2), (3, aI v3), (4, aI v4), (5, aI v5), (6, aI v6), (7, aI v7), (8, aI v8)] [] := by
  unfold f_X12_adds_178B at hf
  refine z_iload (j := 8) C d_X12_adds_178 rfl ?_
  refine z_bipush (v := 10) C d_X12_adds_180 (by decide) ?_
  refine z_icmp_ge (tgt := 200) C d_X12_adds_182 (by decide) hf (fun c182 hf => ?_) (fun c182 hf => ?_)
  · refine z_aload_n (j := 0) C d_X12_adds_200 rfl ?_
    refine z_iload (j := 7) C d_X12_adds_201 rfl ?_
    refine z_iconst (v := 0) C d_X12_adds_203 (by decide) ?_
    refine z_iload_n (j := 1) C d_X12_adds_204 rfl ?_
    refine z_i2l C d_X12_adds_205 ?_
    obtain ⟨q206, hF, hf⟩ := bd hf
    refine z_callV0 (rest := []) C [aI v7, aI 0, aJ (v1.toInt64)] rfl (by decide) rfl rfl k_X12_setStake tw_1525 ⟨by decide, by decide⟩ (Nat.le_of_ble_eq_true rfl) d_X12_adds_206 (c_X12_setStake C.inj hF) rfl ?_
    refine z_aload_n (j := 0) C d_X12_adds_209 rfl ?_
    refine z_iload (j := 7) C d_X12_adds_210 rfl ?_
    refine z_iconst (v := 1) C d_X12_adds_212 (by decide) ?_
    refine z_iload_n (j := 2) C d_X12_adds_213 rfl ?_
    refine z_i2l C d_X12_adds_214 ?_
    obtain ⟨q215, hF, hf⟩ := bd hf
    refine z_callV0 (rest := []) C [aI v7, aI 1, aJ (v2.toInt64)] rfl (by decide) rfl rfl k_X12_setStake tw_1525 ⟨by decide, by decide⟩ (Nat.le_of_ble_eq_true rfl) d_X12_adds_215 (c_X12_setStake C.inj hF) rfl ?_
    refine z_aload_n (j := 0) C d_X12_adds_218 rfl ?_
    refine z_iload (j := 7) C d_X12_adds_219 rfl ?_
    refine z_iconst (v := 2) C d_X12_adds_221 (by decide) ?_
    refine z_iload_n (j := 3) C d_X12_adds_222 rfl ?_
    refine z_i2l C d_X12_adds_223 ?_
    obtain ⟨q224, hF, hf⟩ := bd hf
    refine z_callV0 (rest := []) C [aI v7, aI 2, aJ (v3.toInt64)] rfl (by decide) rfl rfl k_X12_setStake tw_1525 ⟨by decide, by decide⟩ (Nat.le_of_ble_eq_true rfl) d_X12_adds_224 (c_X12_setStake C.inj hF) rfl ?_
    refine z_aload_n (j := 0) C d_X12_adds_227 rfl ?_
    refine z_iload (j := 7) C d_X12_adds_228 rfl ?_
    refine z_iconst (v := 3) C d_X12_adds_230 (by decide) ?_
    refine z_iload (j := 4) C d_X12_adds_231 rfl ?_
    refine z_i2l C d_X12_adds_233 ?_
    obtain ⟨q234, hF, hf⟩ := bd hf
    refine z_callV0 (rest := []) C [aI v7, aI 3, aJ (v4.toInt64)] rfl (by decide) rfl rfl k_X12_setStake tw_1525 ⟨by decide, by decide⟩ (Nat.le_of_ble_eq_true rfl) d_X12_adds_234 (c_X12_setStake C.inj hF) rfl ?_
    refine z_aload_n (j := 0) C d_X12_adds_237 rfl ?_
    refine z_iload (j := 7) C d_X12_adds_238 rfl ?_
    refine z_iconst (v := 4) C d_X12_adds_240 (by decide) ?_
    refine z_iload (j := 5) C d_X12_adds_241 rfl ?_
    refine z_i2l C d_X12_adds_243 ?_
    obtain ⟨q244, hF, hf⟩ := bd hf
    refine z_callV0 (rest := []) C [aI v7, aI 4, aJ (v5.toInt64)] rfl (by decide) rfl rfl k_X12_setStake tw_1525 ⟨by decide, by decide⟩ (Nat.le_of_ble_eq_true rfl) d_X12_adds_244 (c_X12_setStake C.inj hF) rfl ?_
    exact z_sub [0, 1, 2, 3, 4, 6, 7] rfl (t_X12_adds_247 C hr  _ _ _ _ _ _ _ hf)
  · refine z_aload_n (j := 0) C d_X12_adds_185 rfl ?_
    refine z_iload (j := 7) C d_X12_adds_186 rfl ?_
    refine z_iload (j := 8) C d_X12_adds_188 rfl ?_
    refine z_lconst (v := 0) C d_X12_adds_190 (by decide) ?_
    obtain ⟨q191, hF, hf⟩ := bd hf
    refine z_callV0 (rest := []) C [aI v7, aI v8, aJ 0] rfl (by decide) rfl rfl k_X12_setStake tw_1525 ⟨by decide, by decide⟩ (Nat.le_of_ble_eq_true rfl) d_X12_adds_191 (c_X12_setStake C.inj hF) rfl ?_
    refine z_iinc (j := 8) (v := (v8 + 1)) (lv' := [(8, aI (v8 + 1)), (0, aR 20), (1, aI v1), (2, aI v2), (3, aI v3), (4, aI v4), (5, aI v5), (6, aI v6), (7, aI v7)]) C d_X12_adds_194 rfl rfl (by decide) rfl ?_
    refine z_goto (tgt := 178) C d_X12_adds_197 (by decide) ?_
    exact z_sub [1, 2, 3, 4, 5, 6, 7, 8, 0] rfl (hk178 _ _ _ _ _ _ _ _ _ hf)
def f_X12_adds_178 : Nat → Int32 → Int32 → Int32 → Int32 → Int32 → Int32 → Int32 → Int32 → Mem → Option (Int32 × Mem)
  | 0 => fun _ _ _ _ _ _ _ _ _ => none
  | n + 1 => f_X12_adds_178B (f_X12_adds_178 n)
theorem t_X12_adds_178 {X : MC} {Γ : GG} (C : CX X Γ cX12_adds 9 "TickPoolsModel" 3 83) (hr : X.2.2.2.2.2.2.2.2.1.sig.returnType = some .int) {q : Int32 × Mem} : ∀ (n : Nat) (v1 : Int32) (v2 : Int32) (v3 : Int32) (v4 : Int32) (v5 : Int32) (v6 : Int32) (v7 : Int32) (v8 : Int32) (S : Mem) (hf : f_X12_adds_178 n v1 v2 v3 v4 v5 v6 v7 v8 S = some q), ZZ X Γ 9 (QQ X Γ (some (aI q.1)) q.2) S 178 [(0, aR 20), (1, aI v1), (2, aI v2), (3, aI v3), (4, aI v4), (5, aI v5), (6, aI v6), (7, aI v7), (8, aI v8)] []
  | 0, _, _, _, _, _, _, _, _, _, hf => nomatch (show (none : Option (Int32 × Mem)) = some q from hf)
  | n + 1, v1, v2, v3, v4, v5, v6, v7, v8, S, hf => t_X12_adds_178B C hr (t_X12_adds_178 C hr n) v1 v2 v3 v4 v5 v6 v7 v8 S hf
def f_X12_adds_108B (k108 : Int32 → Int32 → Int32 → Int32 → Int32 → Int32 → Int32 → Int32 → Mem → Option (Int32 × Mem)) (v1 : Int32) (v2 : Int32) (v3 : Int32) (v4 : Int32) (v5 : Int32) (v6 : Int32) (v7 : Int32) (v8 : Int32) (S : Mem) : Option (Int32 × Mem) := (if 2 ≤ v8 then (if 0 ≤ v7 then (f_X12_adds_247  v1 v2 v3 v4 v6 v7 S) else ((f_X12_stakes S).bind fun q158 => (f_X12_adds_178  100000 v1 v2 v3 v4 v5 v6 q158.1 0 (sL q158.2 23 ((137 : Int32).toNatClampNeg) ((gL q158.2 23 ((137 : Int32).toNatClampNeg)) + 1))))) else ((f_X12_liesIn v2 v3 v4 (v6.toInt64) v8 1 S).bind fun q125 => ((f_X12_thingOf v2 v8 q125.2).bind fun q134 => ((f_X12_inPurse v1 q134.1 q134.2).bind fun q137 => (if q125.1 ≤ q137.1 then (k108 v1 v2 v3 v4 v5 v6 v7 (v8 + 1) q137.2) else (some ((-1), q137.2)))))))
set_option maxRecDepth 20000 in
theorem t_X12_adds_108B {X : MC} {Γ : GG} (C : CX X Γ cX12_adds 9 "TickPoolsModel" 3 83) (hr : X.2.2.2.2.2.2.2.2.1.sig.returnType = some .int) {k108 : Int32 → Int32 → Int32 → Int32 → Int32 → Int32 → Int32 → Int32 → Mem → Option (Int32 × Mem)} {q : Int32 × Mem} (hk108 : ∀ (v1 : Int32) (v2 : Int32) (v3 : Int32) (v4 : Int32) (v5 : Int32) (v6 : Int32) (v7 : Int32) (v8 : Int32) (S : Mem), k108 v1 v2 v3 v4 v5 v6 v7 v8 S = some q → ZZ X Γ 9 (QQ X Γ (some (aI q.1)) q.2) S 108 [(0, aR 20), (1, aI v1), (2, aI v2), (3, aI v3), (4, aI v4), (5, aI v5), (6, aI v6), (7, aI v7), (8, aI v8)] []) (v1 : Int32) (v2 : Int32) (v3 : Int32) (v4 : Int32) (v5 : Int32) (v6 : Int32) (v7 : Int32) (v8 : Int32) (S : Mem) (hf : f_X12_adds_108B k108 v1 v2 v3 v4 v5 v6 v7 v8 S = some q) : ZZ X Γ 9 (QQ X Γ (some (aI q.1)) q.2) S 108 [(0, aR 20), (1, aI v1), (2, aI v2), (3, aI v3), (4, aI v4), (5, aI v5), (6, aI v6), (7, aI v7), (8, aI v8)] [] := by
  unfold f_X12_adds_108B at hf
  refine z_iload (j := 8) C d_X12_adds_108 rfl ?_
  refine z_iconst (v := 2) C d_X12_adds_110 (by decide) ?_
  refine z_icmp_ge (tgt := 152) C d_X12_adds_111 (by decide) hf (fun c111 hf => ?_) (fun c111 hf => ?_)
  · refine z_iload (j := 7) C d_X12_adds_152 rfl ?_
    refine z_if_ge (tgt := 247) C d_X12_adds_154 (by decide) hf (fun c154 hf => ?_) (fun c154 hf => ?_)
    · exact z_sub [0, 1, 2, 3, 4, 6, 7] rfl (t_X12_adds_247 C hr  _ _ _ _ _ _ _ hf)
    · refine z_aload_n (j := 0) C d_X12_adds_157 rfl ?_
      obtain ⟨q158, hF, hf⟩ := bd hf
      refine z_callV1 (rest := []) C [] rfl (by decide) rfl rfl k_X12_stakes tw_1486 ⟨by decide, by decide⟩ (Nat.le_of_ble_eq_true rfl) d_X12_adds_158 (c_X12_stakes C.inj hF) rfl ?_
      refine z_istore (lv' := [(7, aI q158.1), (0, aR 20), (1, aI v1), (2, aI v2), (3, aI v3), (4, aI v4), (5, aI v5), (6, aI v6), (8, aI v8)]) C d_X12_adds_161 (by decide) rfl ?_
      refine z_aload_n (j := 1) C d_X12_adds_163 rfl ?_
      refine zg_X12_now C rfl tw_1216 d_X12_adds_164 ?_
      refine z_sipush (v := 137) C d_X12_adds_167 (by decide) ?_
      refine z_dup2_11 C d_X12_adds_170 rfl rfl ?_
      refine z_lald C rfl (by decide) d_X12_adds_171 ?_
      refine z_lconst (v := 1) C d_X12_adds_172 (by decide) ?_
      refine z_ladd C d_X12_adds_173 ?_
      refine z_last C rfl (by decide) d_X12_adds_174 ?_
      refine z_iconst (v := 0) C d_X12_adds_175 (by decide) ?_
      refine z_istore (lv' := [(8, aI 0), (7, aI q158.1), (0, aR 20), (1, aI v1), (2, aI v2), (3, aI v3), (4, aI v4), (5, aI v5), (6, aI v6)]) C d_X12_adds_176 (by decide) rfl ?_
      exact z_sub [2, 3, 4, 5, 6, 7, 8, 1, 0] rfl (t_X12_adds_178 C hr  100000 _ _ _ _ _ _ _ _ _ hf)
  · refine z_aload_n (j := 0) C d_X12_adds_114 rfl ?_
    refine z_iload_n (j := 2) C d_X12_adds_115 rfl ?_
    refine z_iload_n (j := 3) C d_X12_adds_116 rfl ?_
    refine z_iload (j := 4) C d_X12_adds_117 rfl ?_
    refine z_iload (j := 6) C d_X12_adds_119 rfl ?_
    refine z_i2l C d_X12_adds_121 ?_
    refine z_iload (j := 8) C d_X12_adds_122 rfl ?_
    refine z_iconst (v := 1) C d_X12_adds_124 (by decide) ?_
    obtain ⟨q125, hF, hf⟩ := bd hf
    refine z_callV1 (rest := []) C [aI v2, aI v3, aI v4, aJ (v6.toInt64), aI v8, aI 1] rfl (by decide) rfl rfl k_X12_liesIn tw_1495 ⟨by decide, by decide⟩ (Nat.le_of_ble_eq_true rfl) d_X12_adds_125 (c_X12_liesIn C.inj hF) rfl ?_
    refine z_aload_n (j := 0) C d_X12_adds_128 rfl ?_
    refine z_iload_n (j := 1) C d_X12_adds_129 rfl ?_
    refine z_aload_n (j := 0) C d_X12_adds_130 rfl ?_
    refine z_iload_n (j := 2) C d_X12_adds_131 rfl ?_
    refine z_iload (j := 8) C d_X12_adds_132 rfl ?_
    obtain ⟨q134, hF, hf⟩ := bd hf
    refine z_callV1 (rest := [aI v1, aR 20, aJ q125.1]) C [aI v2, aI v8] rfl (by decide) rfl rfl k_X12_thingOf tw_1517 ⟨by decide, by decide⟩ (Nat.le_of_ble_eq_true rfl) d_X12_adds_134 (c_X12_thingOf C.inj hF) rfl ?_
    obtain ⟨q137, hF, hf⟩ := bd hf
    refine z_callV1 (rest := [aJ q125.1]) C [aI v1, aI q134.1] rfl (by decide) rfl rfl k_X12_inPurse tw_1521 ⟨by decide, by decide⟩ (Nat.le_of_ble_eq_true rfl) d_X12_adds_137 (c_X12_inPurse C.inj hF) rfl ?_
    refine z_lle (tgt := 146) C d_X12_adds_140 d_X12_adds_141 (by decide) hf (fun c140 hf => ?_) (fun c140 hf => ?_)
    · refine z_iinc (j := 8) (v := (v8 + 1)) (lv' := [(8, aI (v8 + 1)), (0, aR 20), (1, aI v1), (2, aI v2), (3, aI v3), (4, aI v4), (5, aI v5), (6, aI v6), (7, aI v7)]) C d_X12_adds_146 rfl rfl (by decide) rfl ?_
      refine z_goto (tgt := 108) C d_X12_adds_149 (by decide) ?_
      exact z_sub [1, 2, 3, 4, 5, 6, 7, 8, 0] rfl (hk108 _ _ _ _ _ _ _ _ _ hf)
    · refine z_iconst (v := (-1)) C d_X12_adds_144 (by decide) ?_
      exact r_i C hr rfl d_X12_adds_145 hf
def f_X12_adds_108 : Nat → Int32 → Int32 → Int32 → Int32 → Int32 → Int32 → Int32 → Int32 → Mem → Option (Int32 × Mem)
  | 0 => fun _ _ _ _ _ _ _ _ _ => none
  | n + 1 => f_X12_adds_108B (f_X12_adds_108 n)
theorem t_X12_adds_108 {X : MC} {Γ : GG} (C : CX X Γ cX12_adds 9 "TickPoolsModel" 3 83) (hr : X.2.2.2.2.2.2.2.2.1.sig.returnType = some .int) {q : Int32 × Mem} : ∀ (n : Nat) (v1 : Int32) (v2 : Int32) (v3 : Int32) (v4 : Int32) (v5 : Int32) (v6 : Int32) (v7 : Int32) (v8 : Int32) (S : Mem) (hf : f_X12_adds_108 n v1 v2 v3 v4 v5 v6 v7 v8 S = some q), ZZ X Γ 9 (QQ X Γ (some (aI q.1)) q.2) S 108 [(0, aR 20), (1, aI v1), (2, aI v2), (3, aI v3), (4, aI v4), (5, aI v5), (6, aI v6), (7, aI v7), (8, aI v8)] []
  | 0, _, _, _, _, _, _, _, _, _, hf => nomatch (show (none : Option (Int32 × Mem)) = some q from hf)
  | n + 1, v1, v2, v3, v4, v5, v6, v7, v8, S, hf => t_X12_adds_108B C hr (t_X12_adds_108 C hr n) v1 v2 v3 v4 v5 v6 v7 v8 S hf
def f_X12_adds_105 (v1 : Int32) (v2 : Int32) (v3 : Int32) (v4 : Int32) (v5 : Int32) (v6 : Int32) (v7 : Int32) (S : Mem) : Option (Int32 × Mem) := (f_X12_adds_108  100000 v1 v2 v3 v4 v5 v6 v7 0 S)
set_option maxRecDepth 20000 in
theorem t_X12_adds_105 {X : MC} {Γ : GG} (C : CX X Γ cX12_adds 9 "TickPoolsModel" 3 83) (hr : X.2.2.2.2.2.2.2.2.1.sig.returnType = some .int) {q : Int32 × Mem} (v1 : Int32) (v2 : Int32) (v3 : Int32) (v4 : Int32) (v5 : Int32) (v6 : Int32) (v7 : Int32) (S : Mem) (hf : f_X12_adds_105 v1 v2 v3 v4 v5 v6 v7 S = some q) : ZZ X Γ 9 (QQ X Γ (some (aI q.1)) q.2) S 105 [(0, aR 20), (1, aI v1), (2, aI v2), (3, aI v3), (4, aI v4), (5, aI v5), (6, aI v6), (7, aI v7)] [] := by
  unfold f_X12_adds_105 at hf
  refine z_iconst (v := 0) C d_X12_adds_105 (by decide) ?_
  refine z_istore (lv' := [(8, aI 0), (0, aR 20), (1, aI v1), (2, aI v2), (3, aI v3), (4, aI v4), (5, aI v5), (6, aI v6), (7, aI v7)]) C d_X12_adds_106 (by decide) rfl ?_
  exact z_sub [1, 2, 3, 4, 5, 6, 7, 8, 0] rfl (t_X12_adds_108 C hr  100000 _ _ _ _ _ _ _ _ _ hf)
/-- TickPoolsModel.adds(IIIIII)I -/
def f_X12_adds (p1 : Int32) (p2 : Int32) (p3 : Int32) (p4 : Int32) (p5 : Int32) (p6 : Int32) (S : Mem) : Option (Int32 × Mem) := ((f_X12_isPerson p1 S).bind fun q2 => (if q2.1 = 0 then (f_X12_adds_53  q2.2) else ((f_X12_isPool p2 q2.2).bind fun q10 => (if q10.1 = 0 then (f_X12_adds_53  q10.2) else ((f_X12_areTicks p2 p3 p4 q10.2).bind fun q21 => (if q21.1 = 0 then (f_X12_adds_53  q21.2) else ((f_X12_isIn (p5.toInt64) 0 2 q21.2).bind fun q34 => (if q34.1 = 0 then (f_X12_adds_53  q34.2) else ((f_X12_isIn (p6.toInt64) 1 99999 q34.2).bind fun q47 => (if q47.1 = 0 then (f_X12_adds_53  q47.2) else ((f_X12_stakeOf p1 p2 p3 p4 p5 q47.2).bind fun q63 => (if 0 ≤ q63.1 then ((f_X12_ofStake q63.1 5 q63.2).bind fun q89 => (if (q89.1 + (p6.toInt64)) ≤ 999999 then (f_X12_adds_105  p1 p2 p3 p4 p5 p6 q63.1 q89.2) else (f_X12_adds_103  q89.2))) else ((f_X12_stakes q63.2).bind fun q74 => (if q74.1 = 12 then (f_X12_adds_103  q74.2) else (f_X12_adds_105  p1 p2 p3 p4 p5 p6 q63.1 q74.2)))))))))))))))
set_option maxRecDepth 20000 in
theorem c_X12_adds {l : Launch} {Γ : GG} (hI : Inj Γ) {p1 : Int32} {p2 : Int32} {p3 : Int32} {p4 : Int32} {p5 : Int32} {p6 : Int32} {S : Mem} {q : Int32 × Mem} (hf : f_X12_adds p1 p2 p3 p4 p5 p6 S = some q) : MM l Γ yX12_adds cX12_adds 9 (some .int) 3 83 [aR 20, aI p1, aI p2, aI p3, aI p4, aI p5, aI p6] S (some (aI q.1)) q.2 := by
  refine met_of hI "TickPoolsModel" rfl (by decide +kernel) (Nat.le_of_ble_eq_true rfl) (fun X hX C hr => ?_)
  unfold f_X12_adds at hf
  show ZZ X Γ 9 _ S 0 [(0, aR 20), (1, aI p1), (2, aI p2), (3, aI p3), (4, aI p4), (5, aI p5), (6, aI p6)] []
  refine z_aload_n (j := 0) C d_X12_adds_0 rfl ?_
  refine z_iload_n (j := 1) C d_X12_adds_1 rfl ?_
  obtain ⟨q2, hF, hf⟩ := bd hf
  refine z_callV1 (rest := []) C [aI p1] rfl (by decide) rfl rfl k_X12_isPerson tw_1467 ⟨by decide, by decide⟩ (Nat.le_of_ble_eq_true rfl) d_X12_adds_2 (c_X12_isPerson C.inj hF) rfl ?_
  refine z_if_eq (tgt := 53) C d_X12_adds_5 (by decide) hf (fun c5 hf => ?_) (fun c5 hf => ?_)
  · exact z_sub [] rfl (t_X12_adds_53 C hr  _ hf)
  · refine z_aload_n (j := 0) C d_X12_adds_8 rfl ?_
    refine z_iload_n (j := 2) C d_X12_adds_9 rfl ?_
    obtain ⟨q10, hF, hf⟩ := bd hf
    refine z_callV1 (rest := []) C [aI p2] rfl (by decide) rfl rfl k_X12_isPool tw_1471 ⟨by decide, by decide⟩ (Nat.le_of_ble_eq_true rfl) d_X12_adds_10 (c_X12_isPool C.inj hF) rfl ?_
    refine z_if_eq (tgt := 53) C d_X12_adds_13 (by decide) hf (fun c13 hf => ?_) (fun c13 hf => ?_)
    · exact z_sub [] rfl (t_X12_adds_53 C hr  _ hf)
    · refine z_aload_n (j := 0) C d_X12_adds_16 rfl ?_
      refine z_iload_n (j := 2) C d_X12_adds_17 rfl ?_
      refine z_iload_n (j := 3) C d_X12_adds_18 rfl ?_
      refine z_iload (j := 4) C d_X12_adds_19 rfl ?_
      obtain ⟨q21, hF, hf⟩ := bd hf
      refine z_callV1 (rest := []) C [aI p2, aI p3, aI p4] rfl (by decide) rfl rfl k_X12_areTicks tw_1475 ⟨by decide, by decide⟩ (Nat.le_of_ble_eq_true rfl) d_X12_adds_21 (c_X12_areTicks C.inj hF) rfl ?_
      refine z_if_eq (tgt := 53) C d_X12_adds_24 (by decide) hf (fun c24 hf => ?_) (fun c24 hf => ?_)
      · exact z_sub [] rfl (t_X12_adds_53 C hr  _ hf)
      · refine z_iload (j := 5) C d_X12_adds_27 rfl ?_
        refine z_i2l C d_X12_adds_29 ?_
        refine z_lconst (v := 0) C d_X12_adds_30 (by decide) ?_
        refine z_ldc2 (v := 2) C tw_1480 d_X12_adds_31 ?_
        obtain ⟨q34, hF, hf⟩ := bd hf
        refine z_callS1 (rest := []) C [aJ (p5.toInt64), aJ 0, aJ 2] k_X12_isIn tw_1385 ⟨by decide, by decide⟩ (Nat.le_of_ble_eq_true rfl) d_X12_adds_34 (c_X12_isIn C.inj hF) rfl ?_
        refine z_if_eq (tgt := 53) C d_X12_adds_37 (by decide) hf (fun c37 hf => ?_) (fun c37 hf => ?_)
        · exact z_sub [] rfl (t_X12_adds_53 C hr  _ hf)
        · refine z_iload (j := 6) C d_X12_adds_40 rfl ?_
          refine z_i2l C d_X12_adds_42 ?_
          refine z_lconst (v := 1) C d_X12_adds_43 (by decide) ?_
          refine z_ldc2 (v := 99999) C tw_1481 d_X12_adds_44 ?_
          obtain ⟨q47, hF, hf⟩ := bd hf
          refine z_callS1 (rest := []) C [aJ (p6.toInt64), aJ 1, aJ 99999] k_X12_isIn tw_1385 ⟨by decide, by decide⟩ (Nat.le_of_ble_eq_true rfl) d_X12_adds_47 (c_X12_isIn C.inj hF) rfl ?_
          refine z_if_ne (tgt := 55) C d_X12_adds_50 (by decide) hf (fun c50 hf => ?_) (fun c50 hf => ?_)
          · refine z_aload_n (j := 0) C d_X12_adds_55 rfl ?_
            refine z_iload_n (j := 1) C d_X12_adds_56 rfl ?_
            refine z_iload_n (j := 2) C d_X12_adds_57 rfl ?_
            refine z_iload_n (j := 3) C d_X12_adds_58 rfl ?_
            refine z_iload (j := 4) C d_X12_adds_59 rfl ?_
            refine z_iload (j := 5) C d_X12_adds_61 rfl ?_
            obtain ⟨q63, hF, hf⟩ := bd hf
            refine z_callV1 (rest := []) C [aI p1, aI p2, aI p3, aI p4, aI p5] rfl (by decide) rfl rfl k_X12_stakeOf tw_1482 ⟨by decide, by decide⟩ (Nat.le_of_ble_eq_true rfl) d_X12_adds_63 (c_X12_stakeOf C.inj hF) rfl ?_
            refine z_istore (lv' := [(7, aI q63.1), (0, aR 20), (1, aI p1), (2, aI p2), (3, aI p3), (4, aI p4), (5, aI p5), (6, aI p6)]) C d_X12_adds_66 (by decide) rfl ?_
            refine z_iload (j := 0) C d_X12_adds_68 rfl ?_
            refine z_if_ge (tgt := 85) C d_X12_adds_70 (by decide) hf (fun c70 hf => ?_) (fun c70 hf => ?_)
            · refine z_aload_n (j := 1) C d_X12_adds_85 rfl ?_
              refine z_iload (j := 0) C d_X12_adds_86 rfl ?_
              refine z_iconst (v := 5) C d_X12_adds_88 (by decide) ?_
              obtain ⟨q89, hF, hf⟩ := bd hf
              refine z_callV1 (rest := []) C [aI q63.1, aI 5] rfl (by decide) rfl rfl k_X12_ofStake tw_1490 ⟨by decide, by decide⟩ (Nat.le_of_ble_eq_true rfl) d_X12_adds_89 (c_X12_ofStake C.inj hF) rfl ?_
              refine z_iload (j := 7) C d_X12_adds_92 rfl ?_
              refine z_i2l C d_X12_adds_94 ?_
              refine z_ladd C d_X12_adds_95 ?_
              refine z_ldc2 (v := 999999) C tw_1494 d_X12_adds_96 ?_
              refine z_lle (tgt := 105) C d_X12_adds_99 d_X12_adds_100 (by decide) hf (fun c99 hf => ?_) (fun c99 hf => ?_)
              · exact z_sub [1, 2, 3, 4, 5, 6, 7, 0] rfl (t_X12_adds_105 C hr  _ _ _ _ _ _ _ _ hf)
              · exact z_sub [] rfl (t_X12_adds_103 C hr  _ hf)
            · refine z_aload_n (j := 1) C d_X12_adds_73 rfl ?_
              obtain ⟨q74, hF, hf⟩ := bd hf
              refine z_callV1 (rest := []) C [] rfl (by decide) rfl rfl k_X12_stakes tw_1486 ⟨by decide, by decide⟩ (Nat.le_of_ble_eq_true rfl) d_X12_adds_74 (c_X12_stakes C.inj hF) rfl ?_
              refine z_bipush (v := 12) C d_X12_adds_77 (by decide) ?_
              refine z_icmp_ne (tgt := 105) C d_X12_adds_79 (by decide) hf (fun c79 hf => ?_) (fun c79 hf => ?_)
              · exact z_sub [1, 2, 3, 4, 5, 6, 7, 0] rfl (t_X12_adds_105 C hr  _ _ _ _ _ _ _ _ hf)
              · refine z_goto (tgt := 103) C d_X12_adds_82 (by decide) ?_
                exact z_sub [] rfl (t_X12_adds_103 C hr  _ hf)
          · exact z_sub [] rfl (t_X12_adds_53 C hr  _ hf)
theorem d_X12_add_0 : decode cX12_add 0 = .ok (.aload_n 0, 1) := by decide +kernel
theorem d_X12_add_1 : decode cX12_add 1 = .ok (.iload_n 1, 1) := by decide +kernel
theorem d_X12_add_2 : decode cX12_add 2 = .ok (.iload_n 2, 1) := by decide +kernel
theorem d_X12_add_3 : decode cX12_add 3 = .ok (.iload_n 3, 1) := by decide +kernel
theorem d_X12_add_4 : decode cX12_add 4 = .ok (.iload 4, 2) := by decide +kernel
theorem d_X12_add_6 : decode cX12_add 6 = .ok (.iload 5, 2) := by decide +kernel
theorem d_X12_add_8 : decode cX12_add 8 = .ok (.iload 6, 2) := by decide +kernel
theorem d_X12_add_10 : decode cX12_add 10 = .ok (.invokevirtual 303, 3) := by decide +kernel
theorem d_X12_add_13 : decode cX12_add 13 = .ok (.ireturn, 1) := by decide +kernel
/-- TickPoolsModel.add(IIIIII)I -/
def f_X12_add (p1 : Int32) (p2 : Int32) (p3 : Int32) (p4 : Int32) (p5 : Int32) (p6 : Int32) (S : Mem) : Option (Int32 × Mem) := ((f_X12_adds p1 p2 p3 p4 p5 p6 S).bind fun q10 => (some (q10.1, q10.2)))
set_option maxRecDepth 20000 in
theorem c_X12_add {l : Launch} {Γ : GG} (hI : Inj Γ) {p1 : Int32} {p2 : Int32} {p3 : Int32} {p4 : Int32} {p5 : Int32} {p6 : Int32} {S : Mem} {q : Int32 × Mem} (hf : f_X12_add p1 p2 p3 p4 p5 p6 S = some q) : MM l Γ yX12_add cX12_add 7 (some .int) 4 111 [aR 20, aI p1, aI p2, aI p3, aI p4, aI p5, aI p6] S (some (aI q.1)) q.2 := by
  refine met_of hI "TickPoolsModel" rfl (by decide +kernel) (Nat.le_of_ble_eq_true rfl) (fun X hX C hr => ?_)
  unfold f_X12_add at hf
  show ZZ X Γ 7 _ S 0 [(0, aR 20), (1, aI p1), (2, aI p2), (3, aI p3), (4, aI p4), (5, aI p5), (6, aI p6)] []
  refine z_aload_n (j := 0) C d_X12_add_0 rfl ?_
  refine z_iload_n (j := 1) C d_X12_add_1 rfl ?_
  refine z_iload_n (j := 2) C d_X12_add_2 rfl ?_
  refine z_iload_n (j := 3) C d_X12_add_3 rfl ?_
  refine z_iload (j := 4) C d_X12_add_4 rfl ?_
  refine z_iload (j := 5) C d_X12_add_6 rfl ?_
  refine z_iload (j := 6) C d_X12_add_8 rfl ?_
  obtain ⟨q10, hF, hf⟩ := bd hf
  refine z_callV1 (rest := []) C [aI p1, aI p2, aI p3, aI p4, aI p5, aI p6] rfl (by decide) rfl rfl k_X12_adds tw_1463 ⟨by decide, by decide⟩ (Nat.le_of_ble_eq_true rfl) d_X12_add_10 (c_X12_adds C.inj hF) rfl ?_
  exact r_i C hr rfl d_X12_add_13 hf
theorem d_X12_take_0 : decode cX12_take 0 = .ok (.aload_n 0, 1) := by decide +kernel
theorem d_X12_take_1 : decode cX12_take 1 = .ok (.iload_n 1, 1) := by decide +kernel
theorem d_X12_take_2 : decode cX12_take 2 = .ok (.invokevirtual 307, 3) := by decide +kernel
theorem d_X12_take_5 : decode cX12_take 5 = .ok (.ifCond .eq 18, 3) := by decide +kernel
theorem d_X12_take_8 : decode cX12_take 8 = .ok (.iload_n 2, 1) := by decide +kernel
theorem d_X12_take_9 : decode cX12_take 9 = .ok (.i2l, 1) := by decide +kernel
theorem d_X12_take_10 : decode cX12_take 10 = .ok (.lconst 1, 1) := by decide +kernel
theorem d_X12_take_11 : decode cX12_take 11 = .ok (.aload_n 0, 1) := by decide +kernel
theorem d_X12_take_12 : decode cX12_take 12 = .ok (.iload_n 1, 1) := by decide +kernel
theorem d_X12_take_13 : decode cX12_take 13 = .ok (.iconst 5, 1) := by decide +kernel
theorem d_X12_take_14 : decode cX12_take 14 = .ok (.invokevirtual 238, 3) := by decide +kernel
theorem d_X12_take_17 : decode cX12_take 17 = .ok (.invokestatic 137, 3) := by decide +kernel
theorem d_X12_take_20 : decode cX12_take 20 = .ok (.ifCond .ne 5, 3) := by decide +kernel
theorem d_X12_take_23 : decode cX12_take 23 = .ok (.iconst (-1), 1) := by decide +kernel
theorem d_X12_take_24 : decode cX12_take 24 = .ok (.ireturn, 1) := by decide +kernel
theorem d_X12_take_25 : decode cX12_take 25 = .ok (.aload_n 0, 1) := by decide +kernel
theorem d_X12_take_26 : decode cX12_take 26 = .ok (.iload_n 1, 1) := by decide +kernel
theorem d_X12_take_27 : decode cX12_take 27 = .ok (.iload_n 2, 1) := by decide +kernel
theorem d_X12_take_28 : decode cX12_take 28 = .ok (.i2l, 1) := by decide +kernel
theorem d_X12_take_29 : decode cX12_take 29 = .ok (.invokevirtual 310, 3) := by decide +kernel
theorem d_X12_take_32 : decode cX12_take 32 = .ok (.aload_n 0, 1) := by decide +kernel
theorem d_X12_take_33 : decode cX12_take 33 = .ok (.invokevirtual 130, 3) := by decide +kernel
theorem d_X12_take_36 : decode cX12_take 36 = .ok (.ireturn, 1) := by decide +kernel
def f_X12_take_23 (S : Mem) : Option (Int32 × Mem) := (some ((-1), S))
set_option maxRecDepth 20000 in
theorem t_X12_take_23 {X : MC} {Γ : GG} (C : CX X Γ cX12_take 3 "TickPoolsModel" 4 108) (hr : X.2.2.2.2.2.2.2.2.1.sig.returnType = some .int) {q : Int32 × Mem} (S : Mem) (hf : f_X12_take_23 S = some q) : ZZ X Γ 3 (QQ X Γ (some (aI q.1)) q.2) S 23 [] [] := by
  unfold f_X12_take_23 at hf
  refine z_iconst (v := (-1)) C d_X12_take_23 (by decide) ?_
  exact r_i C hr rfl d_X12_take_24 hf
/-- TickPoolsModel.take(II)I -/
def f_X12_take (p1 : Int32) (p2 : Int32) (S : Mem) : Option (Int32 × Mem) := ((f_X12_isStake p1 S).bind fun q2 => (if q2.1 = 0 then (f_X12_take_23  q2.2) else ((f_X12_ofStake p1 5 q2.2).bind fun q14 => ((f_X12_isIn (p2.toInt64) 1 q14.1 q14.2).bind fun q17 => (if q17.1 = 0 then (f_X12_take_23  q17.2) else ((f_X12_takesOut p1 (p2.toInt64) q17.2).bind fun q29 => ((f_X12_stakes q29.2).bind fun q33 => (some (q33.1, q33.2)))))))))
set_option maxRecDepth 20000 in
theorem c_X12_take {l : Launch} {Γ : GG} (hI : Inj Γ) {p1 : Int32} {p2 : Int32} {S : Mem} {q : Int32 × Mem} (hf : f_X12_take p1 p2 S = some q) : MM l Γ yX12_take cX12_take 3 (some .int) 4 108 [aR 20, aI p1, aI p2] S (some (aI q.1)) q.2 := by
  refine met_of hI "TickPoolsModel" rfl (by decide +kernel) (Nat.le_of_ble_eq_true rfl) (fun X hX C hr => ?_)
  unfold f_X12_take at hf
  show ZZ X Γ 3 _ S 0 [(0, aR 20), (1, aI p1), (2, aI p2)] []
  refine z_aload_n (j := 0) C d_X12_take_0 rfl ?_
  refine z_iload_n (j := 1) C d_X12_take_1 rfl ?_
  obtain ⟨q2, hF, hf⟩ := bd hf
  refine z_callV1 (rest := []) C [aI p1] rfl (by decide) rfl rfl k_X12_isStake tw_1554 ⟨by decide, by decide⟩ (Nat.le_of_ble_eq_true rfl) d_X12_take_2 (c_X12_isStake C.inj hF) rfl ?_
  refine z_if_eq (tgt := 23) C d_X12_take_5 (by decide) hf (fun c5 hf => ?_) (fun c5 hf => ?_)
  · exact z_sub [] rfl (t_X12_take_23 C hr  _ hf)
  · refine z_iload_n (j := 2) C d_X12_take_8 rfl ?_
    refine z_i2l C d_X12_take_9 ?_
    refine z_lconst (v := 1) C d_X12_take_10 (by decide) ?_
    refine z_aload_n (j := 0) C d_X12_take_11 rfl ?_
    refine z_iload_n (j := 1) C d_X12_take_12 rfl ?_
    refine z_iconst (v := 5) C d_X12_take_13 (by decide) ?_
    obtain ⟨q14, hF, hf⟩ := bd hf
    refine z_callV1 (rest := [aJ 1, aJ (p2.toInt64)]) C [aI p1, aI 5] rfl (by decide) rfl rfl k_X12_ofStake tw_1490 ⟨by decide, by decide⟩ (Nat.le_of_ble_eq_true rfl) d_X12_take_14 (c_X12_ofStake C.inj hF) rfl ?_
    obtain ⟨q17, hF, hf⟩ := bd hf
    refine z_callS1 (rest := []) C [aJ (p2.toInt64), aJ 1, aJ q14.1] k_X12_isIn tw_1385 ⟨by decide, by decide⟩ (Nat.le_of_ble_eq_true rfl) d_X12_take_17 (c_X12_isIn C.inj hF) rfl ?_
    refine z_if_ne (tgt := 25) C d_X12_take_20 (by decide) hf (fun c20 hf => ?_) (fun c20 hf => ?_)
    · refine z_aload_n (j := 0) C d_X12_take_25 rfl ?_
      refine z_iload_n (j := 1) C d_X12_take_26 rfl ?_
      refine z_iload_n (j := 2) C d_X12_take_27 rfl ?_
      refine z_i2l C d_X12_take_28 ?_
      obtain ⟨q29, hF, hf⟩ := bd hf
      refine z_callV0 (rest := []) C [aI p1, aJ (p2.toInt64)] rfl (by decide) rfl rfl k_X12_takesOut tw_1558 ⟨by decide, by decide⟩ (Nat.le_of_ble_eq_true rfl) d_X12_take_29 (c_X12_takesOut C.inj hF) rfl ?_
      refine z_aload_n (j := 0) C d_X12_take_32 rfl ?_
      obtain ⟨q33, hF, hf⟩ := bd hf
      refine z_callV1 (rest := []) C [] rfl (by decide) rfl rfl k_X12_stakes tw_1486 ⟨by decide, by decide⟩ (Nat.le_of_ble_eq_true rfl) d_X12_take_33 (c_X12_stakes C.inj hF) rfl ?_
      exact r_i C hr rfl d_X12_take_36 hf
    · exact z_sub [] rfl (t_X12_take_23 C hr  _ hf)
theorem d_X12_pay_0 : decode cX12_pay 0 = .ok (.aload_n 0, 1) := by decide +kernel
theorem d_X12_pay_1 : decode cX12_pay 1 = .ok (.iload_n 1, 1) := by decide +kernel
theorem d_X12_pay_2 : decode cX12_pay 2 = .ok (.invokevirtual 307, 3) := by decide +kernel
theorem d_X12_pay_5 : decode cX12_pay 5 = .ok (.ifCond .ne 5, 3) := by decide +kernel
theorem d_X12_pay_8 : decode cX12_pay 8 = .ok (.iconst (-1), 1) := by decide +kernel
theorem d_X12_pay_9 : decode cX12_pay 9 = .ok (.ireturn, 1) := by decide +kernel
theorem d_X12_pay_10 : decode cX12_pay 10 = .ok (.aload_n 0, 1) := by decide +kernel
theorem d_X12_pay_11 : decode cX12_pay 11 = .ok (.iload_n 1, 1) := by decide +kernel
theorem d_X12_pay_12 : decode cX12_pay 12 = .ok (.invokevirtual 267, 3) := by decide +kernel
theorem d_X12_pay_15 : decode cX12_pay 15 = .ok (.aload_n 0, 1) := by decide +kernel
theorem d_X12_pay_16 : decode cX12_pay 16 = .ok (.iload_n 1, 1) := by decide +kernel
theorem d_X12_pay_17 : decode cX12_pay 17 = .ok (.invokevirtual 275, 3) := by decide +kernel
theorem d_X12_pay_20 : decode cX12_pay 20 = .ok (.l2i, 1) := by decide +kernel
theorem d_X12_pay_21 : decode cX12_pay 21 = .ok (.ireturn, 1) := by decide +kernel
/-- TickPoolsModel.pay(I)I -/
def f_X12_pay (p1 : Int32) (S : Mem) : Option (Int32 × Mem) := ((f_X12_isStake p1 S).bind fun q2 => (if q2.1 = 0 then (some ((-1), q2.2)) else ((f_X12_settles p1 q2.2).bind fun q12 => ((f_X12_paysOut p1 q12.2).bind fun q17 => (some (((q17.1 : Int64).toInt32), q17.2))))))
set_option maxRecDepth 20000 in
theorem c_X12_pay {l : Launch} {Γ : GG} (hI : Inj Γ) {p1 : Int32} {S : Mem} {q : Int32 × Mem} (hf : f_X12_pay p1 S = some q) : MM l Γ yX12_pay cX12_pay 2 (some .int) 3 75 [aR 20, aI p1] S (some (aI q.1)) q.2 := by
  refine met_of hI "TickPoolsModel" rfl (by decide +kernel) (Nat.le_of_ble_eq_true rfl) (fun X hX C hr => ?_)
  unfold f_X12_pay at hf
  show ZZ X Γ 2 _ S 0 [(0, aR 20), (1, aI p1)] []
  refine z_aload_n (j := 0) C d_X12_pay_0 rfl ?_
  refine z_iload_n (j := 1) C d_X12_pay_1 rfl ?_
  obtain ⟨q2, hF, hf⟩ := bd hf
  refine z_callV1 (rest := []) C [aI p1] rfl (by decide) rfl rfl k_X12_isStake tw_1554 ⟨by decide, by decide⟩ (Nat.le_of_ble_eq_true rfl) d_X12_pay_2 (c_X12_isStake C.inj hF) rfl ?_
  refine z_if_ne (tgt := 10) C d_X12_pay_5 (by decide) hf (fun c5 hf => ?_) (fun c5 hf => ?_)
  · refine z_aload_n (j := 0) C d_X12_pay_10 rfl ?_
    refine z_iload_n (j := 1) C d_X12_pay_11 rfl ?_
    obtain ⟨q12, hF, hf⟩ := bd hf
    refine z_callV0 (rest := []) C [aI p1] rfl (by decide) rfl rfl k_X12_settles tw_1529 ⟨by decide, by decide⟩ (Nat.le_of_ble_eq_true rfl) d_X12_pay_12 (c_X12_settles C.inj hF) rfl ?_
    refine z_aload_n (j := 0) C d_X12_pay_15 rfl ?_
    refine z_iload_n (j := 1) C d_X12_pay_16 rfl ?_
    obtain ⟨q17, hF, hf⟩ := bd hf
    refine z_callV1 (rest := []) C [aI p1] rfl (by decide) rfl rfl k_X12_paysOut tw_1562 ⟨by decide, by decide⟩ (Nat.le_of_ble_eq_true rfl) d_X12_pay_17 (c_X12_paysOut C.inj hF) rfl ?_
    refine z_l2i C d_X12_pay_20 ?_
    exact r_i C hr rfl d_X12_pay_21 hf
  · refine z_iconst (v := (-1)) C d_X12_pay_8 (by decide) ?_
    exact r_i C hr rfl d_X12_pay_9 hf
theorem d_X12_levy_0 : decode cX12_levy 0 = .ok (.aload_n 0, 1) := by decide +kernel
theorem d_X12_levy_1 : decode cX12_levy 1 = .ok (.iload_n 1, 1) := by decide +kernel
theorem d_X12_levy_2 : decode cX12_levy 2 = .ok (.invokevirtual 284, 3) := by decide +kernel
theorem d_X12_levy_5 : decode cX12_levy 5 = .ok (.ifCond .ne 5, 3) := by decide +kernel
theorem d_X12_levy_8 : decode cX12_levy 8 = .ok (.iconst (-1), 1) := by decide +kernel
theorem d_X12_levy_9 : decode cX12_levy 9 = .ok (.ireturn, 1) := by decide +kernel
theorem d_X12_levy_10 : decode cX12_levy 10 = .ok (.lconst 0, 1) := by decide +kernel
theorem d_X12_levy_11 : decode cX12_levy 11 = .ok (.lstore_n 2, 1) := by decide +kernel
theorem d_X12_levy_12 : decode cX12_levy 12 = .ok (.iconst 0, 1) := by decide +kernel
theorem d_X12_levy_13 : decode cX12_levy 13 = .ok (.istore 4, 2) := by decide +kernel
theorem d_X12_levy_15 : decode cX12_levy 15 = .ok (.iload 4, 2) := by decide +kernel
theorem d_X12_levy_17 : decode cX12_levy 17 = .ok (.iconst 2, 1) := by decide +kernel
theorem d_X12_levy_18 : decode cX12_levy 18 = .ok (.if_icmp .ge 45, 3) := by decide +kernel
theorem d_X12_levy_21 : decode cX12_levy 21 = .ok (.aload_n 0, 1) := by decide +kernel
theorem d_X12_levy_22 : decode cX12_levy 22 = .ok (.iload_n 1, 1) := by decide +kernel
theorem d_X12_levy_23 : decode cX12_levy 23 = .ok (.iconst 4, 1) := by decide +kernel
theorem d_X12_levy_24 : decode cX12_levy 24 = .ok (.iload 4, 2) := by decide +kernel
theorem d_X12_levy_26 : decode cX12_levy 26 = .ok (.iadd, 1) := by decide +kernel
theorem d_X12_levy_27 : decode cX12_levy 27 = .ok (.invokevirtual 116, 3) := by decide +kernel
theorem d_X12_levy_30 : decode cX12_levy 30 = .ok (.lstore 5, 2) := by decide +kernel
theorem d_X12_levy_32 : decode cX12_levy 32 = .ok (.aload_n 0, 1) := by decide +kernel
theorem d_X12_levy_33 : decode cX12_levy 33 = .ok (.iload_n 1, 1) := by decide +kernel
theorem d_X12_levy_34 : decode cX12_levy 34 = .ok (.iconst 0, 1) := by decide +kernel
theorem d_X12_levy_35 : decode cX12_levy 35 = .ok (.iload 4, 2) := by decide +kernel
theorem d_X12_levy_37 : decode cX12_levy 37 = .ok (.lload 5, 2) := by decide +kernel
theorem d_X12_levy_39 : decode cX12_levy 39 = .ok (.invokevirtual 263, 3) := by decide +kernel
theorem d_X12_levy_42 : decode cX12_levy 42 = .ok (.aload_n 0, 1) := by decide +kernel
theorem d_X12_levy_43 : decode cX12_levy 43 = .ok (.iload_n 1, 1) := by decide +kernel
theorem d_X12_levy_44 : decode cX12_levy 44 = .ok (.iconst 4, 1) := by decide +kernel
theorem d_X12_levy_45 : decode cX12_levy 45 = .ok (.iload 4, 2) := by decide +kernel
theorem d_X12_levy_47 : decode cX12_levy 47 = .ok (.iadd, 1) := by decide +kernel
theorem d_X12_levy_48 : decode cX12_levy 48 = .ok (.lconst 0, 1) := by decide +kernel
theorem d_X12_levy_49 : decode cX12_levy 49 = .ok (.invokevirtual 208, 3) := by decide +kernel
theorem d_X12_levy_52 : decode cX12_levy 52 = .ok (.lload_n 2, 1) := by decide +kernel
theorem d_X12_levy_53 : decode cX12_levy 53 = .ok (.lload 5, 2) := by decide +kernel
theorem d_X12_levy_55 : decode cX12_levy 55 = .ok (.ladd, 1) := by decide +kernel
theorem d_X12_levy_56 : decode cX12_levy 56 = .ok (.lstore_n 2, 1) := by decide +kernel
theorem d_X12_levy_57 : decode cX12_levy 57 = .ok (.iinc 4 1, 3) := by decide +kernel
theorem d_X12_levy_60 : decode cX12_levy 60 = .ok (.goto (-45), 3) := by decide +kernel
theorem d_X12_levy_63 : decode cX12_levy 63 = .ok (.lload_n 2, 1) := by decide +kernel
theorem d_X12_levy_64 : decode cX12_levy 64 = .ok (.l2i, 1) := by decide +kernel
theorem d_X12_levy_65 : decode cX12_levy 65 = .ok (.ireturn, 1) := by decide +kernel
def f_X12_levy_57 (k15 : Int32 → Int64 → Int32 → Mem → Option (Int32 × Mem)) (v1 : Int32) (v2 : Int64) (v4 : Int32) (S : Mem) : Option (Int32 × Mem) := (k15 v1 v2 (v4 + 1) S)
set_option maxRecDepth 20000 in
theorem t_X12_levy_57 {X : MC} {Γ : GG} (C : CX X Γ cX12_levy 7 "TickPoolsModel" 2 49) (hr : X.2.2.2.2.2.2.2.2.1.sig.returnType = some .int) {k15 : Int32 → Int64 → Int32 → Mem → Option (Int32 × Mem)} {q : Int32 × Mem} (hk15 : ∀ (v1 : Int32) (v2 : Int64) (v4 : Int32) (S : Mem), k15 v1 v2 v4 S = some q → ZZ X Γ 7 (QQ X Γ (some (aI q.1)) q.2) S 15 [(0, aR 20), (1, aI v1), (2, aJ v2), (4, aI v4)] []) (v1 : Int32) (v2 : Int64) (v4 : Int32) (S : Mem) (hf : f_X12_levy_57 k15 v1 v2 v4 S = some q) : ZZ X Γ 7 (QQ X Γ (some (aI q.1)) q.2) S 57 [(0, aR 20), (1, aI v1), (2, aJ v2), (4, aI v4)] [] := by
  unfold f_X12_levy_57 at hf
  refine z_iinc (j := 3) (v := (v4 + 1)) (lv' := [(4, aI (v4 + 1)), (0, aR 20), (1, aI v1), (2, aJ v2)]) C d_X12_levy_57 rfl rfl (by decide) rfl ?_
  refine z_goto (tgt := 15) C d_X12_levy_60 (by decide) ?_
  exact z_sub [1, 2, 3, 0] rfl (hk15 _ _ _ _ hf)
def f_X12_levy_15B (k15 : Int32 → Int64 → Int32 → Mem → Option (Int32 × Mem)) (v1 : Int32) (v2 : Int64) (v4 : Int32) (S : Mem) : Option (Int32 × Mem) := (if 2 ≤ v4 then (some (((v2 : Int64).toInt32), S)) else ((f_X12_ofPool v1 (4 + v4) S).bind fun q27 => ((f_X12_goesOut v1 0 v4 q27.1 q27.2).bind fun q39 => ((f_X12_setPool v1 (4 + v4) 0 q39.2).bind fun q49 => (f_X12_levy_57 k15 v1 (v2 + q27.1) v4 q49.2)))))
set_option maxRecDepth 20000 in
theorem t_X12_levy_15B {X : MC} {Γ : GG} (C : CX X Γ cX12_levy 7 "TickPoolsModel" 2 49) (hr : X.2.2.2.2.2.2.2.2.1.sig.returnType = some .int) {k15 : Int32 → Int64 → Int32 → Mem → Option (Int32 × Mem)} {q : Int32 × Mem} (hk15 : ∀ (v1 : Int32) (v2 : Int64) (v4 : Int32) (S : Mem), k15 v1 v2 v4 S = some q → ZZ X Γ 7 (QQ X Γ (some (aI q.1)) q.2) S 15 [(0, aR 20), (1, aI v1), (2, aJ v2), (4, aI v4)] []) (v1 : Int32) (v2 : Int64) (v4 : Int32) (S : Mem) (hf : f_X12_levy_15B k15 v1 v2 v4 S = some q) : ZZ X Γ 7 (QQ X Γ (some (aI q.1)) q.2) S 15 [(0, aR 20), (1, aI v1), (2, aJ v2), (4, aI v4)] [] := by
  unfold f_X12_levy_15B at hf
  refine z_iload (j := 3) C d_X12_levy_15 rfl ?_
  refine z_iconst (v := 2) C d_X12_levy_17 (by decide) ?_
  refine z_icmp_ge (tgt := 63) C d_X12_levy_18 (by decide) hf (fun c18 hf => ?_) (fun c18 hf => ?_)
  · refine z_lload_n (j := 2) C d_X12_levy_63 rfl ?_
    refine z_l2i C d_X12_levy_64 ?_
    exact r_i C hr rfl d_X12_levy_65 hf
  · refine z_aload_n (j := 0) C d_X12_levy_21 rfl ?_
    refine z_iload_n (j := 1) C d_X12_levy_22 rfl ?_
    refine z_iconst (v := 4) C d_X12_levy_23 (by decide) ?_
    refine z_iload (j := 3) C d_X12_levy_24 rfl ?_
    refine z_iadd C d_X12_levy_26 ?_
    obtain ⟨q27, hF, hf⟩ := bd hf
    refine z_callV1 (rest := []) C [aI v1, aI (4 + v4)] rfl (by decide) rfl rfl k_X12_ofPool tw_1503 ⟨by decide, by decide⟩ (Nat.le_of_ble_eq_true rfl) d_X12_levy_27 (c_X12_ofPool C.inj hF) rfl ?_
    refine z_lstore (lv' := [(5, aJ q27.1), (0, aR 20), (1, aI v1), (2, aJ v2), (4, aI v4)]) C d_X12_levy_30 (by decide) rfl ?_
    refine z_aload_n (j := 1) C d_X12_levy_32 rfl ?_
    refine z_iload_n (j := 2) C d_X12_levy_33 rfl ?_
    refine z_iconst (v := 0) C d_X12_levy_34 (by decide) ?_
    refine z_iload (j := 4) C d_X12_levy_35 rfl ?_
    refine z_lload (j := 0) C d_X12_levy_37 rfl ?_
    obtain ⟨q39, hF, hf⟩ := bd hf
    refine z_callV0 (rest := []) C [aI v1, aI 0, aI v4, aJ q27.1] rfl (by decide) rfl rfl k_X12_goesOut tw_1538 ⟨by decide, by decide⟩ (Nat.le_of_ble_eq_true rfl) d_X12_levy_39 (c_X12_goesOut C.inj hF) rfl ?_
    refine z_aload_n (j := 1) C d_X12_levy_42 rfl ?_
    refine z_iload_n (j := 2) C d_X12_levy_43 rfl ?_
    refine z_iconst (v := 4) C d_X12_levy_44 (by decide) ?_
    refine z_iload (j := 4) C d_X12_levy_45 rfl ?_
    refine z_iadd C d_X12_levy_47 ?_
    refine z_lconst (v := 0) C d_X12_levy_48 (by decide) ?_
    obtain ⟨q49, hF, hf⟩ := bd hf
    refine z_callV0 (rest := []) C [aI v1, aI (4 + v4), aJ 0] rfl (by decide) rfl rfl k_X12_setPool tw_1451 ⟨by decide, by decide⟩ (Nat.le_of_ble_eq_true rfl) d_X12_levy_49 (c_X12_setPool C.inj hF) rfl ?_
    refine z_lload_n (j := 3) C d_X12_levy_52 rfl ?_
    refine z_lload (j := 0) C d_X12_levy_53 rfl ?_
    refine z_ladd C d_X12_levy_55 ?_
    refine z_lstore_n (lv' := [(2, aJ (v2 + q27.1)), (5, aJ q27.1), (0, aR 20), (1, aI v1), (4, aI v4)]) C d_X12_levy_56 (by decide) rfl ?_
    exact z_sub [2, 3, 0, 4] rfl (t_X12_levy_57 C hr hk15 _ _ _ _ hf)
def f_X12_levy_15 : Nat → Int32 → Int64 → Int32 → Mem → Option (Int32 × Mem)
  | 0 => fun _ _ _ _ => none
  | n + 1 => f_X12_levy_15B (f_X12_levy_15 n)
theorem t_X12_levy_15 {X : MC} {Γ : GG} (C : CX X Γ cX12_levy 7 "TickPoolsModel" 2 49) (hr : X.2.2.2.2.2.2.2.2.1.sig.returnType = some .int) {q : Int32 × Mem} : ∀ (n : Nat) (v1 : Int32) (v2 : Int64) (v4 : Int32) (S : Mem) (hf : f_X12_levy_15 n v1 v2 v4 S = some q), ZZ X Γ 7 (QQ X Γ (some (aI q.1)) q.2) S 15 [(0, aR 20), (1, aI v1), (2, aJ v2), (4, aI v4)] []
  | 0, _, _, _, _, hf => nomatch (show (none : Option (Int32 × Mem)) = some q from hf)
  | n + 1, v1, v2, v4, S, hf => t_X12_levy_15B C hr (t_X12_levy_15 C hr n) v1 v2 v4 S hf
/-- TickPoolsModel.levy(I)I -/
def f_X12_levy (p1 : Int32) (S : Mem) : Option (Int32 × Mem) := ((f_X12_isPool p1 S).bind fun q2 => (if q2.1 = 0 then (some ((-1), q2.2)) else (f_X12_levy_15  100000 p1 0 0 q2.2)))
set_option maxRecDepth 20000 in
theorem c_X12_levy {l : Launch} {Γ : GG} (hI : Inj Γ) {p1 : Int32} {S : Mem} {q : Int32 × Mem} (hf : f_X12_levy p1 S = some q) : MM l Γ yX12_levy cX12_levy 7 (some .int) 2 49 [aR 20, aI p1] S (some (aI q.1)) q.2 := by
  refine met_of hI "TickPoolsModel" rfl (by decide +kernel) (Nat.le_of_ble_eq_true rfl) (fun X hX C hr => ?_)
  unfold f_X12_levy at hf
  show ZZ X Γ 7 _ S 0 [(0, aR 20), (1, aI p1)] []
  refine z_aload_n (j := 0) C d_X12_levy_0 rfl ?_
  refine z_iload_n (j := 1) C d_X12_levy_1 rfl ?_
  obtain ⟨q2, hF, hf⟩ := bd hf
  refine z_callV1 (rest := []) C [aI p1] rfl (by decide) rfl rfl k_X12_isPool tw_1471 ⟨by decide, by decide⟩ (Nat.le_of_ble_eq_true rfl) d_X12_levy_2 (c_X12_isPool C.inj hF) rfl ?_
  refine z_if_ne (tgt := 10) C d_X12_levy_5 (by decide) hf (fun c5 hf => ?_) (fun c5 hf => ?_)
  · refine z_lconst (v := 0) C d_X12_levy_10 (by decide) ?_
    refine z_lstore_n (lv' := [(2, aJ 0), (0, aR 20), (1, aI p1)]) C d_X12_levy_11 (by decide) rfl ?_
    refine z_iconst (v := 0) C d_X12_levy_12 (by decide) ?_
    refine z_istore (lv' := [(4, aI 0), (2, aJ 0), (0, aR 20), (1, aI p1)]) C d_X12_levy_13 (by decide) rfl ?_
    exact z_sub [2, 3, 1, 0] rfl (t_X12_levy_15 C hr  100000 _ _ _ _ hf)
  · refine z_iconst (v := (-1)) C d_X12_levy_8 (by decide) ?_
    exact r_i C hr rfl d_X12_levy_9 hf
theorem d_X12_aimOf_0 : decode cX12_aimOf 0 = .ok (.aload_n 0, 1) := by decide +kernel
theorem d_X12_aimOf_1 : decode cX12_aimOf 1 = .ok (.iload_n 1, 1) := by decide +kernel
theorem d_X12_aimOf_2 : decode cX12_aimOf 2 = .ok (.invokevirtual 228, 3) := by decide +kernel
theorem d_X12_aimOf_5 : decode cX12_aimOf 5 = .ok (.istore 4, 2) := by decide +kernel
theorem d_X12_aimOf_7 : decode cX12_aimOf 7 = .ok (.iload_n 3, 1) := by decide +kernel
theorem d_X12_aimOf_8 : decode cX12_aimOf 8 = .ok (.istore 5, 2) := by decide +kernel
theorem d_X12_aimOf_10 : decode cX12_aimOf 10 = .ok (.iconst 0, 1) := by decide +kernel
theorem d_X12_aimOf_11 : decode cX12_aimOf 11 = .ok (.istore 6, 2) := by decide +kernel
theorem d_X12_aimOf_13 : decode cX12_aimOf 13 = .ok (.iload 6, 2) := by decide +kernel
theorem d_X12_aimOf_15 : decode cX12_aimOf 15 = .ok (.aload_n 0, 1) := by decide +kernel
theorem d_X12_aimOf_16 : decode cX12_aimOf 16 = .ok (.invokevirtual 130, 3) := by decide +kernel
theorem d_X12_aimOf_19 : decode cX12_aimOf 19 = .ok (.if_icmp .ge 90, 3) := by decide +kernel
theorem d_X12_aimOf_22 : decode cX12_aimOf 22 = .ok (.aload_n 0, 1) := by decide +kernel
theorem d_X12_aimOf_23 : decode cX12_aimOf 23 = .ok (.iload 6, 2) := by decide +kernel
theorem d_X12_aimOf_25 : decode cX12_aimOf 25 = .ok (.iconst 1, 1) := by decide +kernel
theorem d_X12_aimOf_26 : decode cX12_aimOf 26 = .ok (.invokevirtual 238, 3) := by decide +kernel
theorem d_X12_aimOf_29 : decode cX12_aimOf 29 = .ok (.iload_n 1, 1) := by decide +kernel
theorem d_X12_aimOf_30 : decode cX12_aimOf 30 = .ok (.i2l, 1) := by decide +kernel
theorem d_X12_aimOf_31 : decode cX12_aimOf 31 = .ok (.lcmp, 1) := by decide +kernel
theorem d_X12_aimOf_32 : decode cX12_aimOf 32 = .ok (.ifCond .eq 6, 3) := by decide +kernel
theorem d_X12_aimOf_35 : decode cX12_aimOf 35 = .ok (.goto 68, 3) := by decide +kernel
theorem d_X12_aimOf_38 : decode cX12_aimOf 38 = .ok (.iconst 2, 1) := by decide +kernel
theorem d_X12_aimOf_39 : decode cX12_aimOf 39 = .ok (.istore 7, 2) := by decide +kernel
theorem d_X12_aimOf_41 : decode cX12_aimOf 41 = .ok (.iload 7, 2) := by decide +kernel
theorem d_X12_aimOf_43 : decode cX12_aimOf 43 = .ok (.iconst 3, 1) := by decide +kernel
theorem d_X12_aimOf_44 : decode cX12_aimOf 44 = .ok (.if_icmp .gt 59, 3) := by decide +kernel
theorem d_X12_aimOf_47 : decode cX12_aimOf 47 = .ok (.aload_n 0, 1) := by decide +kernel
theorem d_X12_aimOf_48 : decode cX12_aimOf 48 = .ok (.iload 6, 2) := by decide +kernel
theorem d_X12_aimOf_50 : decode cX12_aimOf 50 = .ok (.iload 7, 2) := by decide +kernel
theorem d_X12_aimOf_52 : decode cX12_aimOf 52 = .ok (.invokevirtual 238, 3) := by decide +kernel
theorem d_X12_aimOf_55 : decode cX12_aimOf 55 = .ok (.l2i, 1) := by decide +kernel
theorem d_X12_aimOf_56 : decode cX12_aimOf 56 = .ok (.istore 8, 2) := by decide +kernel
theorem d_X12_aimOf_58 : decode cX12_aimOf 58 = .ok (.iload_n 2, 1) := by decide +kernel
theorem d_X12_aimOf_59 : decode cX12_aimOf 59 = .ok (.ifCond .ne 20, 3) := by decide +kernel
theorem d_X12_aimOf_62 : decode cX12_aimOf 62 = .ok (.iload 8, 2) := by decide +kernel
theorem d_X12_aimOf_64 : decode cX12_aimOf 64 = .ok (.iload 4, 2) := by decide +kernel
theorem d_X12_aimOf_66 : decode cX12_aimOf 66 = .ok (.if_icmp .gt 31, 3) := by decide +kernel
theorem d_X12_aimOf_69 : decode cX12_aimOf 69 = .ok (.iload 8, 2) := by decide +kernel
theorem d_X12_aimOf_71 : decode cX12_aimOf 71 = .ok (.iload 5, 2) := by decide +kernel
theorem d_X12_aimOf_73 : decode cX12_aimOf 73 = .ok (.if_icmp .le 24, 3) := by decide +kernel
theorem d_X12_aimOf_76 : decode cX12_aimOf 76 = .ok (.goto 17, 3) := by decide +kernel
theorem d_X12_aimOf_79 : decode cX12_aimOf 79 = .ok (.iload 8, 2) := by decide +kernel
theorem d_X12_aimOf_81 : decode cX12_aimOf 81 = .ok (.iload 4, 2) := by decide +kernel
theorem d_X12_aimOf_83 : decode cX12_aimOf 83 = .ok (.if_icmp .le 14, 3) := by decide +kernel
theorem d_X12_aimOf_86 : decode cX12_aimOf 86 = .ok (.iload 8, 2) := by decide +kernel
theorem d_X12_aimOf_88 : decode cX12_aimOf 88 = .ok (.iload 5, 2) := by decide +kernel
theorem d_X12_aimOf_90 : decode cX12_aimOf 90 = .ok (.if_icmp .ge 7, 3) := by decide +kernel
theorem d_X12_aimOf_93 : decode cX12_aimOf 93 = .ok (.iload 8, 2) := by decide +kernel
theorem d_X12_aimOf_95 : decode cX12_aimOf 95 = .ok (.istore 5, 2) := by decide +kernel
theorem d_X12_aimOf_97 : decode cX12_aimOf 97 = .ok (.iinc 7 1, 3) := by decide +kernel
theorem d_X12_aimOf_100 : decode cX12_aimOf 100 = .ok (.goto (-59), 3) := by decide +kernel
theorem d_X12_aimOf_103 : decode cX12_aimOf 103 = .ok (.iinc 6 1, 3) := by decide +kernel
theorem d_X12_aimOf_106 : decode cX12_aimOf 106 = .ok (.goto (-93), 3) := by decide +kernel
theorem d_X12_aimOf_109 : decode cX12_aimOf 109 = .ok (.iload 5, 2) := by decide +kernel
theorem d_X12_aimOf_111 : decode cX12_aimOf 111 = .ok (.ireturn, 1) := by decide +kernel
def f_X12_aimOf_97 (k13 : Int32 → Int32 → Int32 → Int32 → Int32 → Mem → Option (Int32 × Mem)) (k41 : Int32 → Int32 → Int32 → Int32 → Int32 → Int32 → Mem → Option (Int32 × Mem)) (v1 : Int32) (v2 : Int32) (v4 : Int32) (v5 : Int32) (v6 : Int32) (v7 : Int32) (S : Mem) : Option (Int32 × Mem) := (k41 v1 v2 v4 v5 v6 (v7 + 1) S)
set_option maxRecDepth 20000 in
theorem t_X12_aimOf_97 {X : MC} {Γ : GG} (C : CX X Γ cX12_aimOf 9 "TickPoolsModel" 2 43) (hr : X.2.2.2.2.2.2.2.2.1.sig.returnType = some .int) {k13 : Int32 → Int32 → Int32 → Int32 → Int32 → Mem → Option (Int32 × Mem)} {k41 : Int32 → Int32 → Int32 → Int32 → Int32 → Int32 → Mem → Option (Int32 × Mem)} {q : Int32 × Mem} (hk13 : ∀ (v1 : Int32) (v2 : Int32) (v4 : Int32) (v5 : Int32) (v6 : Int32) (S : Mem), k13 v1 v2 v4 v5 v6 S = some q → ZZ X Γ 9 (QQ X Γ (some (aI q.1)) q.2) S 13 [(0, aR 20), (1, aI v1), (2, aI v2), (4, aI v4), (5, aI v5), (6, aI v6)] []) (hk41 : ∀ (v1 : Int32) (v2 : Int32) (v4 : Int32) (v5 : Int32) (v6 : Int32) (v7 : Int32) (S : Mem), k41 v1 v2 v4 v5 v6 v7 S = some q → ZZ X Γ 9 (QQ X Γ (some (aI q.1)) q.2) S 41 [(0, aR 20), (1, aI v1), (2, aI v2), (4, aI v4), (5, aI v5), (6, aI v6), (7, aI v7)] []) (v1 : Int32) (v2 : Int32) (v4 : Int32) (v5 : Int32) (v6 : Int32) (v7 : Int32) (S : Mem) (hf : f_X12_aimOf_97 k13 k41 v1 v2 v4 v5 v6 v7 S = some q) : ZZ X Γ 9 (QQ X Γ (some (aI q.1)) q.2) S 97 [(0, aR 20), (1, aI v1), (2, aI v2), (4, aI v4), (5, aI v5), (6, aI v6), (7, aI v7)] [] := by
  unfold f_X12_aimOf_97 at hf
  refine z_iinc (j := 6) (v := (v7 + 1)) (lv' := [(7, aI (v7 + 1)), (0, aR 20), (1, aI v1), (2, aI v2), (4, aI v4), (5, aI v5), (6, aI v6)]) C d_X12_aimOf_97 rfl rfl (by decide) rfl ?_
  refine z_goto (tgt := 41) C d_X12_aimOf_100 (by decide) ?_
  exact z_sub [1, 2, 3, 4, 5, 6, 0] rfl (hk41 _ _ _ _ _ _ _ hf)
def f_X12_aimOf_93 (k13 : Int32 → Int32 → Int32 → Int32 → Int32 → Mem → Option (Int32 × Mem)) (k41 : Int32 → Int32 → Int32 → Int32 → Int32 → Int32 → Mem → Option (Int32 × Mem)) (v1 : Int32) (v2 : Int32) (v4 : Int32) (v6 : Int32) (v7 : Int32) (v8 : Int32) (S : Mem) : Option (Int32 × Mem) := (f_X12_aimOf_97 k13 k41 v1 v2 v4 v8 v6 v7 S)
set_option maxRecDepth 20000 in
theorem t_X12_aimOf_93 {X : MC} {Γ : GG} (C : CX X Γ cX12_aimOf 9 "TickPoolsModel" 2 43) (hr : X.2.2.2.2.2.2.2.2.1.sig.returnType = some .int) {k13 : Int32 → Int32 → Int32 → Int32 → Int32 → Mem → Option (Int32 × Mem)} {k41 : Int32 → Int32 → Int32 → Int32 → Int32 → Int32 → Mem → Option (Int32 × Mem)} {q : Int32 × Mem} (hk13 : ∀ (v1 : Int32) (v2 : Int32) (v4 : Int32) (v5 : Int32) (v6 : Int32) (S : Mem), k13 v1 v2 v4 v5 v6 S = some q → ZZ X Γ 9 (QQ X Γ (some (aI q.1)) q.2) S 13 [(0, aR 20), (1, aI v1), (2, aI v2), (4, aI v4), (5, aI v5), (6, aI v6)] []) (hk41 : ∀ (v1 : Int32) (v2 : Int32) (v4 : Int32) (v5 : Int32) (v6 : Int32) (v7 : Int32) (S : Mem), k41 v1 v2 v4 v5 v6 v7 S = some q → ZZ X Γ 9 (QQ X Γ (some (aI q.1)) q.2) S 41 [(0, aR 20), (1, aI v1), (2, aI v2), (4, aI v4), (5, aI v5), (6, aI v6), (7, aI v7)] []) (v1 : Int32) (v2 : Int32) (v4 : Int32) (v6 : Int32) (v7 : Int32) (v8 : Int32) (S : Mem) (hf : f_X12_aimOf_93 k13 k41 v1 v2 v4 v6 v7 v8 S = some q) : ZZ X Γ 9 (QQ X Γ (some (aI q.1)) q.2) S 93 [(0, aR 20), (1, aI v1), (2, aI v2), (4, aI v4), (6, aI v6), (7, aI v7), (8, aI v8)] [] := by
  unfold f_X12_aimOf_93 at hf
  refine z_iload (j := 6) C d_X12_aimOf_93 rfl ?_
  refine z_istore (lv' := [(5, aI v8), (0, aR 20), (1, aI v1), (2, aI v2), (4, aI v4), (6, aI v6), (7, aI v7), (8, aI v8)]) C d_X12_aimOf_95 (by decide) rfl ?_
  exact z_sub [1, 2, 3, 4, 0, 5, 6] rfl (t_X12_aimOf_97 C hr hk13 hk41 _ _ _ _ _ _ _ hf)
def f_X12_aimOf_58 (k13 : Int32 → Int32 → Int32 → Int32 → Int32 → Mem → Option (Int32 × Mem)) (k41 : Int32 → Int32 → Int32 → Int32 → Int32 → Int32 → Mem → Option (Int32 × Mem)) (v1 : Int32) (v2 : Int32) (v4 : Int32) (v5 : Int32) (v6 : Int32) (v7 : Int32) (v8 : Int32) (S : Mem) : Option (Int32 × Mem) := (if v2 = 0 then (if v4 < v8 then (f_X12_aimOf_97 k13 k41 v1 v2 v4 v5 v6 v7 S) else (if v8 ≤ v5 then (f_X12_aimOf_97 k13 k41 v1 v2 v4 v5 v6 v7 S) else (f_X12_aimOf_93 k13 k41 v1 v2 v4 v6 v7 v8 S))) else (if v8 ≤ v4 then (f_X12_aimOf_97 k13 k41 v1 v2 v4 v5 v6 v7 S) else (if v5 ≤ v8 then (f_X12_aimOf_97 k13 k41 v1 v2 v4 v5 v6 v7 S) else (f_X12_aimOf_93 k13 k41 v1 v2 v4 v6 v7 v8 S))))
set_option maxRecDepth 20000 in
theorem t_X12_aimOf_58 {X : MC} {Γ : GG} (C : CX X Γ cX12_aimOf 9 "TickPoolsModel" 2 43) (hr : X.2.2.2.2.2.2.2.2.1.sig.returnType = some .int) {k13 : Int32 → Int32 → Int32 → Int32 → Int32 → Mem → Option (Int32 × Mem)} {k41 : Int32 → Int32 → Int32 → Int32 → Int32 → Int32 → Mem → Option (Int32 × Mem)} {q : Int32 × Mem} (hk13 : ∀ (v1 : Int32) (v2 : Int32) (v4 : Int32) (v5 : Int32) (v6 : Int32) (S : Mem), k13 v1 v2 v4 v5 v6 S = some q → ZZ X Γ 9 (QQ X Γ (some (aI q.1)) q.2) S 13 [(0, aR 20), (1, aI v1), (2, aI v2), (4, aI v4), (5, aI v5), (6, aI v6)] []) (hk41 : ∀ (v1 : Int32) (v2 : Int32) (v4 : Int32) (v5 : Int32) (v6 : Int32) (v7 : Int32) (S : Mem), k41 v1 v2 v4 v5 v6 v7 S = some q → ZZ X Γ 9 (QQ X Γ (some (aI q.1)) q.2) S 41 [(0, aR 20), (1, aI v1), (2, aI v2), (4, aI v4), (5, aI v5), (6, aI v6), (7, aI v7)] []) (v1 : Int32) (v2 : Int32) (v4 : Int32) (v5 : Int32) (v6 : Int32) (v7 : Int32) (v8 : Int32) (S : Mem) (hf : f_X12_aimOf_58 k13 k41 v1 v2 v4 v5 v6 v7 v8 S = some q) : ZZ X Γ 9 (QQ X Γ (some (aI q.1)) q.2) S 58 [(0, aR 20), (1, aI v1), (2, aI v2), (4, aI v4), (5, aI v5), (6, aI v6), (7, aI v7), (8, aI v8)] [] := by
  unfold f_X12_aimOf_58 at hf
  refine z_iload_n (j := 2) C d_X12_aimOf_58 rfl ?_
  refine z_if_ne (tgt := 79) C d_X12_aimOf_59 (by decide) hf (fun c59 hf => ?_) (fun c59 hf => ?_)
  · refine z_iload (j := 7) C d_X12_aimOf_79 rfl ?_
    refine z_iload (j := 3) C d_X12_aimOf_81 rfl ?_
    refine z_icmp_le (tgt := 97) C d_X12_aimOf_83 (by decide) hf (fun c83 hf => ?_) (fun c83 hf => ?_)
    · exact z_sub [0, 1, 2, 3, 4, 5, 6] rfl (t_X12_aimOf_97 C hr hk13 hk41 _ _ _ _ _ _ _ hf)
    · refine z_iload (j := 7) C d_X12_aimOf_86 rfl ?_
      refine z_iload (j := 4) C d_X12_aimOf_88 rfl ?_
      refine z_icmp_ge (tgt := 97) C d_X12_aimOf_90 (by decide) hf (fun c90 hf => ?_) (fun c90 hf => ?_)
      · exact z_sub [0, 1, 2, 3, 4, 5, 6] rfl (t_X12_aimOf_97 C hr hk13 hk41 _ _ _ _ _ _ _ hf)
      · exact z_sub [0, 1, 2, 3, 5, 6, 7] rfl (t_X12_aimOf_93 C hr hk13 hk41 _ _ _ _ _ _ _ hf)
  · refine z_iload (j := 7) C d_X12_aimOf_62 rfl ?_
    refine z_iload (j := 3) C d_X12_aimOf_64 rfl ?_
    refine z_icmp_gt (tgt := 97) C d_X12_aimOf_66 (by decide) hf (fun c66 hf => ?_) (fun c66 hf => ?_)
    · exact z_sub [0, 1, 2, 3, 4, 5, 6] rfl (t_X12_aimOf_97 C hr hk13 hk41 _ _ _ _ _ _ _ hf)
    · refine z_iload (j := 7) C d_X12_aimOf_69 rfl ?_
      refine z_iload (j := 4) C d_X12_aimOf_71 rfl ?_
      refine z_icmp_le (tgt := 97) C d_X12_aimOf_73 (by decide) hf (fun c73 hf => ?_) (fun c73 hf => ?_)
      · exact z_sub [0, 1, 2, 3, 4, 5, 6] rfl (t_X12_aimOf_97 C hr hk13 hk41 _ _ _ _ _ _ _ hf)
      · refine z_goto (tgt := 93) C d_X12_aimOf_76 (by decide) ?_
        exact z_sub [0, 1, 2, 3, 5, 6, 7] rfl (t_X12_aimOf_93 C hr hk13 hk41 _ _ _ _ _ _ _ hf)
def f_X12_aimOf_103 (k13 : Int32 → Int32 → Int32 → Int32 → Int32 → Mem → Option (Int32 × Mem)) (v1 : Int32) (v2 : Int32) (v4 : Int32) (v5 : Int32) (v6 : Int32) (S : Mem) : Option (Int32 × Mem) := (k13 v1 v2 v4 v5 (v6 + 1) S)
set_option maxRecDepth 20000 in
theorem t_X12_aimOf_103 {X : MC} {Γ : GG} (C : CX X Γ cX12_aimOf 9 "TickPoolsModel" 2 43) (hr : X.2.2.2.2.2.2.2.2.1.sig.returnType = some .int) {k13 : Int32 → Int32 → Int32 → Int32 → Int32 → Mem → Option (Int32 × Mem)} {q : Int32 × Mem} (hk13 : ∀ (v1 : Int32) (v2 : Int32) (v4 : Int32) (v5 : Int32) (v6 : Int32) (S : Mem), k13 v1 v2 v4 v5 v6 S = some q → ZZ X Γ 9 (QQ X Γ (some (aI q.1)) q.2) S 13 [(0, aR 20), (1, aI v1), (2, aI v2), (4, aI v4), (5, aI v5), (6, aI v6)] []) (v1 : Int32) (v2 : Int32) (v4 : Int32) (v5 : Int32) (v6 : Int32) (S : Mem) (hf : f_X12_aimOf_103 k13 v1 v2 v4 v5 v6 S = some q) : ZZ X Γ 9 (QQ X Γ (some (aI q.1)) q.2) S 103 [(0, aR 20), (1, aI v1), (2, aI v2), (4, aI v4), (5, aI v5), (6, aI v6)] [] := by
  unfold f_X12_aimOf_103 at hf
  refine z_iinc (j := 5) (v := (v6 + 1)) (lv' := [(6, aI (v6 + 1)), (0, aR 20), (1, aI v1), (2, aI v2), (4, aI v4), (5, aI v5)]) C d_X12_aimOf_103 rfl rfl (by decide) rfl ?_
  refine z_goto (tgt := 13) C d_X12_aimOf_106 (by decide) ?_
  exact z_sub [1, 2, 3, 4, 5, 0] rfl (hk13 _ _ _ _ _ _ hf)
def f_X12_aimOf_41B (k13 : Int32 → Int32 → Int32 → Int32 → Int32 → Mem → Option (Int32 × Mem)) (k41 : Int32 → Int32 → Int32 → Int32 → Int32 → Int32 → Mem → Option (Int32 × Mem)) (v1 : Int32) (v2 : Int32) (v4 : Int32) (v5 : Int32) (v6 : Int32) (v7 : Int32) (S : Mem) : Option (Int32 × Mem) := (if 3 < v7 then (f_X12_aimOf_103 k13 v1 v2 v4 v5 v6 S) else ((f_X12_ofStake v6 v7 S).bind fun q52 => (f_X12_aimOf_58 k13 k41 v1 v2 v4 v5 v6 v7 ((q52.1 : Int64).toInt32) q52.2)))
set_option maxRecDepth 20000 in
theorem t_X12_aimOf_41B {X : MC} {Γ : GG} (C : CX X Γ cX12_aimOf 9 "TickPoolsModel" 2 43) (hr : X.2.2.2.2.2.2.2.2.1.sig.returnType = some .int) {k13 : Int32 → Int32 → Int32 → Int32 → Int32 → Mem → Option (Int32 × Mem)} {k41 : Int32 → Int32 → Int32 → Int32 → Int32 → Int32 → Mem → Option (Int32 × Mem)} {q : Int32 × Mem} (hk13 : ∀ (v1 : Int32) (v2 : Int32) (v4 : Int32) (v5 : Int32) (v6 : Int32) (S : Mem), k13 v1 v2 v4 v5 v6 S = some q → ZZ X Γ 9 (QQ X Γ (some (aI q.1)) q.2) S 13 [(0, aR 20), (1, aI v1), (2, aI v2), (4, aI v4), (5, aI v5), (6, aI v6)] []) (hk41 : ∀ (v1 : Int32) (v2 : Int32) (v4 : Int32) (v5 : Int32) (v6 : Int32) (v7 : Int32) (S : Mem), k41 v1 v2 v4 v5 v6 v7 S = some q → ZZ X Γ 9 (QQ X Γ (some (aI q.1)) q.2) S 41 [(0, aR 20), (1, aI v1), (2, aI v2), (4, aI v4), (5, aI v5), (6, aI v6), (7, aI v7)] []) (v1 : Int32) (v2 : Int32) (v4 : Int32) (v5 : Int32) (v6 : Int32) (v7 : Int32) (S : Mem) (hf : f_X12_aimOf_41B k13 k41 v1 v2 v4 v5 v6 v7 S = some q) : ZZ X Γ 9 (QQ X Γ (some (aI q.1)) q.2) S 41 [(0, aR 20), (1, aI v1), (2, aI v2), (4, aI v4), (5, aI v5), (6, aI v6), (7, aI v7)] [] := by
  unfold f_X12_aimOf_41B at hf
  refine z_iload (j := 6) C d_X12_aimOf_41 rfl ?_
  refine z_iconst (v := 3) C d_X12_aimOf_43 (by decide) ?_
  refine z_icmp_gt (tgt := 103) C d_X12_aimOf_44 (by decide) hf (fun c44 hf => ?_) (fun c44 hf => ?_)
  · exact z_sub [0, 1, 2, 3, 4, 5] rfl (t_X12_aimOf_103 C hr hk13 _ _ _ _ _ _ hf)
  · refine z_aload_n (j := 0) C d_X12_aimOf_47 rfl ?_
    refine z_iload (j := 5) C d_X12_aimOf_48 rfl ?_
    refine z_iload (j := 6) C d_X12_aimOf_50 rfl ?_
    obtain ⟨q52, hF, hf⟩ := bd hf
    refine z_callV1 (rest := []) C [aI v6, aI v7] rfl (by decide) rfl rfl k_X12_ofStake tw_1490 ⟨by decide, by decide⟩ (Nat.le_of_ble_eq_true rfl) d_X12_aimOf_52 (c_X12_ofStake C.inj hF) rfl ?_
    refine z_l2i C d_X12_aimOf_55 ?_
    refine z_istore (lv' := [(8, aI ((q52.1 : Int64).toInt32)), (0, aR 20), (1, aI v1), (2, aI v2), (4, aI v4), (5, aI v5), (6, aI v6), (7, aI v7)]) C d_X12_aimOf_56 (by decide) rfl ?_
    exact z_sub [1, 2, 3, 4, 5, 6, 7, 0] rfl (t_X12_aimOf_58 C hr hk13 hk41 _ _ _ _ _ _ _ _ hf)
def f_X12_aimOf_41 (k13 : Int32 → Int32 → Int32 → Int32 → Int32 → Mem → Option (Int32 × Mem)) : Nat → Int32 → Int32 → Int32 → Int32 → Int32 → Int32 → Mem → Option (Int32 × Mem)
  | 0 => fun _ _ _ _ _ _ _ => none
  | n + 1 => f_X12_aimOf_41B k13 (f_X12_aimOf_41 k13 n)
theorem t_X12_aimOf_41 {X : MC} {Γ : GG} (C : CX X Γ cX12_aimOf 9 "TickPoolsModel" 2 43) (hr : X.2.2.2.2.2.2.2.2.1.sig.returnType = some .int) {k13 : Int32 → Int32 → Int32 → Int32 → Int32 → Mem → Option (Int32 × Mem)} {q : Int32 × Mem} (hk13 : ∀ (v1 : Int32) (v2 : Int32) (v4 : Int32) (v5 : Int32) (v6 : Int32) (S : Mem), k13 v1 v2 v4 v5 v6 S = some q → ZZ X Γ 9 (QQ X Γ (some (aI q.1)) q.2) S 13 [(0, aR 20), (1, aI v1), (2, aI v2), (4, aI v4), (5, aI v5), (6, aI v6)] []) : ∀ (n : Nat) (v1 : Int32) (v2 : Int32) (v4 : Int32) (v5 : Int32) (v6 : Int32) (v7 : Int32) (S : Mem) (hf : f_X12_aimOf_41 k13 n v1 v2 v4 v5 v6 v7 S = some q), ZZ X Γ 9 (QQ X Γ (some (aI q.1)) q.2) S 41 [(0, aR 20), (1, aI v1), (2, aI v2), (4, aI v4), (5, aI v5), (6, aI v6), (7, aI v7)] []
  | 0, _, _, _, _, _, _, _, hf => nomatch (show (none : Option (Int32 × Mem)) = some q from hf)
  | n + 1, v1, v2, v4, v5, v6, v7, S, hf => t_X12_aimOf_41B C hr hk13 (t_X12_aimOf_41 C hr hk13 n) v1 v2 v4 v5 v6 v7 S hf
def f_X12_aimOf_13B (k13 : Int32 → Int32 → Int32 → Int32 → Int32 → Mem → Option (Int32 × Mem)) (v1 : Int32) (v2 : Int32) (v4 : Int32) (v5 : Int32) (v6 : Int32) (S : Mem) : Option (Int32 × Mem) := ((f_X12_stakes S).bind fun q16 => (if q16.1 ≤ v6 then (some (v5, q16.2)) else ((f_X12_ofStake v6 1 q16.2).bind fun q26 => (if q26.1 = (v1.toInt64) then (f_X12_aimOf_41 k13 100000 v1 v2 v4 v5 v6 2 q26.2) else (f_X12_aimOf_103 k13 v1 v2 v4 v5 v6 q26.2)))))
set_option maxRecDepth 20000 in
theorem t_X12_aimOf_13B {X : MC} {Γ : GG} (C : CX X Γ cX12_aimOf 9 "TickPoolsModel" 2 43) (hr : X.2.2.2.2.2.2.2.2.1.sig.returnType = some .int) {k13 : Int32 → Int32 → Int32 → Int32 → Int32 → Mem → Option (Int32 × Mem)} {q : Int32 × Mem} (hk13 : ∀ (v1 : Int32) (v2 : Int32) (v4 : Int32) (v5 : Int32) (v6 : Int32) (S : Mem), k13 v1 v2 v4 v5 v6 S = some q → ZZ X Γ 9 (QQ X Γ (some (aI q.1)) q.2) S 13 [(0, aR 20), (1, aI v1), (2, aI v2), (4, aI v4), (5, aI v5), (6, aI v6)] []) (v1 : Int32) (v2 : Int32) (v4 : Int32) (v5 : Int32) (v6 : Int32) (S : Mem) (hf : f_X12_aimOf_13B k13 v1 v2 v4 v5 v6 S = some q) : ZZ X Γ 9 (QQ X Γ (some (aI q.1)) q.2) S 13 [(0, aR 20), (1, aI v1), (2, aI v2), (4, aI v4), (5, aI v5), (6, aI v6)] [] := by
  unfold f_X12_aimOf_13B at hf
  refine z_iload (j := 5) C d_X12_aimOf_13 rfl ?_
  refine z_aload_n (j := 0) C d_X12_aimOf_15 rfl ?_
  obtain ⟨q16, hF, hf⟩ := bd hf
  refine z_callV1 (rest := [aI v6]) C [] rfl (by decide) rfl rfl k_X12_stakes tw_1486 ⟨by decide, by decide⟩ (Nat.le_of_ble_eq_true rfl) d_X12_aimOf_16 (c_X12_stakes C.inj hF) rfl ?_
  refine z_icmp_ge (tgt := 109) C d_X12_aimOf_19 (by decide) hf (fun c19 hf => ?_) (fun c19 hf => ?_)
  · refine z_iload (j := 4) C d_X12_aimOf_109 rfl ?_
    exact r_i C hr rfl d_X12_aimOf_111 hf
  · refine z_aload_n (j := 0) C d_X12_aimOf_22 rfl ?_
    refine z_iload (j := 5) C d_X12_aimOf_23 rfl ?_
    refine z_iconst (v := 1) C d_X12_aimOf_25 (by decide) ?_
    obtain ⟨q26, hF, hf⟩ := bd hf
    refine z_callV1 (rest := []) C [aI v6, aI 1] rfl (by decide) rfl rfl k_X12_ofStake tw_1490 ⟨by decide, by decide⟩ (Nat.le_of_ble_eq_true rfl) d_X12_aimOf_26 (c_X12_ofStake C.inj hF) rfl ?_
    refine z_iload_n (j := 1) C d_X12_aimOf_29 rfl ?_
    refine z_i2l C d_X12_aimOf_30 ?_
    refine z_leq (tgt := 38) C d_X12_aimOf_31 d_X12_aimOf_32 (by decide) hf (fun c31 hf => ?_) (fun c31 hf => ?_)
    · refine z_iconst (v := 2) C d_X12_aimOf_38 (by decide) ?_
      refine z_istore (lv' := [(7, aI 2), (0, aR 20), (1, aI v1), (2, aI v2), (4, aI v4), (5, aI v5), (6, aI v6)]) C d_X12_aimOf_39 (by decide) rfl ?_
      exact z_sub [1, 2, 3, 4, 5, 6, 0] rfl (t_X12_aimOf_41 C hr hk13 100000 _ _ _ _ _ _ _ hf)
    · refine z_goto (tgt := 103) C d_X12_aimOf_35 (by decide) ?_
      exact z_sub [0, 1, 2, 3, 4, 5] rfl (t_X12_aimOf_103 C hr hk13 _ _ _ _ _ _ hf)
def f_X12_aimOf_13 : Nat → Int32 → Int32 → Int32 → Int32 → Int32 → Mem → Option (Int32 × Mem)
  | 0 => fun _ _ _ _ _ _ => none
  | n + 1 => f_X12_aimOf_13B (f_X12_aimOf_13 n)
theorem t_X12_aimOf_13 {X : MC} {Γ : GG} (C : CX X Γ cX12_aimOf 9 "TickPoolsModel" 2 43) (hr : X.2.2.2.2.2.2.2.2.1.sig.returnType = some .int) {q : Int32 × Mem} : ∀ (n : Nat) (v1 : Int32) (v2 : Int32) (v4 : Int32) (v5 : Int32) (v6 : Int32) (S : Mem) (hf : f_X12_aimOf_13 n v1 v2 v4 v5 v6 S = some q), ZZ X Γ 9 (QQ X Γ (some (aI q.1)) q.2) S 13 [(0, aR 20), (1, aI v1), (2, aI v2), (4, aI v4), (5, aI v5), (6, aI v6)] []
  | 0, _, _, _, _, _, _, hf => nomatch (show (none : Option (Int32 × Mem)) = some q from hf)
  | n + 1, v1, v2, v4, v5, v6, S, hf => t_X12_aimOf_13B C hr (t_X12_aimOf_13 C hr n) v1 v2 v4 v5 v6 S hf
/-- TickPoolsModel.aimOf(III)I -/
def f_X12_aimOf (p1 : Int32) (p2 : Int32) (p3 : Int32) (S : Mem) : Option (Int32 × Mem) := ((f_X12_zoneNow p1 S).bind fun q2 => (f_X12_aimOf_13  100000 p1 p2 q2.1 p3 0 q2.2))
set_option maxRecDepth 20000 in
theorem c_X12_aimOf {l : Launch} {Γ : GG} (hI : Inj Γ) {p1 : Int32} {p2 : Int32} {p3 : Int32} {S : Mem} {q : Int32 × Mem} (hf : f_X12_aimOf p1 p2 p3 S = some q) : MM l Γ yX12_aimOf cX12_aimOf 9 (some .int) 2 43 [aR 20, aI p1, aI p2, aI p3] S (some (aI q.1)) q.2 := by
  refine met_of hI "TickPoolsModel" rfl (by decide +kernel) (Nat.le_of_ble_eq_true rfl) (fun X hX C hr => ?_)
  unfold f_X12_aimOf at hf
  show ZZ X Γ 9 _ S 0 [(0, aR 20), (1, aI p1), (2, aI p2), (3, aI p3)] []
  refine z_aload_n (j := 0) C d_X12_aimOf_0 rfl ?_
  refine z_iload_n (j := 1) C d_X12_aimOf_1 rfl ?_
  obtain ⟨q2, hF, hf⟩ := bd hf
  refine z_callV1 (rest := []) C [aI p1] rfl (by decide) rfl rfl k_X12_zoneNow tw_1499 ⟨by decide, by decide⟩ (Nat.le_of_ble_eq_true rfl) d_X12_aimOf_2 (c_X12_zoneNow C.inj hF) rfl ?_
  refine z_istore (lv' := [(4, aI q2.1), (0, aR 20), (1, aI p1), (2, aI p2), (3, aI p3)]) C d_X12_aimOf_5 (by decide) rfl ?_
  refine z_iload_n (j := 4) C d_X12_aimOf_7 rfl ?_
  refine z_istore (lv' := [(5, aI p3), (4, aI q2.1), (0, aR 20), (1, aI p1), (2, aI p2), (3, aI p3)]) C d_X12_aimOf_8 (by decide) rfl ?_
  refine z_iconst (v := 0) C d_X12_aimOf_10 (by decide) ?_
  refine z_istore (lv' := [(6, aI 0), (5, aI p3), (4, aI q2.1), (0, aR 20), (1, aI p1), (2, aI p2), (3, aI p3)]) C d_X12_aimOf_11 (by decide) rfl ?_
  exact z_sub [3, 4, 5, 2, 1, 0] rfl (t_X12_aimOf_13 C hr  100000 _ _ _ _ _ _ hf)
theorem d_X12_shares_0 : decode cX12_shares 0 = .ok (.lload_n 3, 1) := by decide +kernel
theorem d_X12_shares_1 : decode cX12_shares 1 = .ok (.aload_n 0, 1) := by decide +kernel
theorem d_X12_shares_2 : decode cX12_shares 2 = .ok (.getfield 13, 3) := by decide +kernel
theorem d_X12_shares_5 : decode cX12_shares 5 = .ok (.iconst 5, 1) := by decide +kernel
theorem d_X12_shares_6 : decode cX12_shares 6 = .ok (.iload_n 1, 1) := by decide +kernel
theorem d_X12_shares_7 : decode cX12_shares 7 = .ok (.imul, 1) := by decide +kernel
theorem d_X12_shares_8 : decode cX12_shares 8 = .ok (.iconst 3, 1) := by decide +kernel
theorem d_X12_shares_9 : decode cX12_shares 9 = .ok (.iadd, 1) := by decide +kernel
theorem d_X12_shares_10 : decode cX12_shares 10 = .ok (.iaload, 1) := by decide +kernel
theorem d_X12_shares_11 : decode cX12_shares 11 = .ok (.i2l, 1) := by decide +kernel
theorem d_X12_shares_12 : decode cX12_shares 12 = .ok (.lmul, 1) := by decide +kernel
theorem d_X12_shares_13 : decode cX12_shares 13 = .ok (.ldc2_w 314, 3) := by decide +kernel
theorem d_X12_shares_16 : decode cX12_shares 16 = .ok (.ldiv, 1) := by decide +kernel
theorem d_X12_shares_17 : decode cX12_shares 17 = .ok (.lstore 5, 2) := by decide +kernel
theorem d_X12_shares_19 : decode cX12_shares 19 = .ok (.aload_n 0, 1) := by decide +kernel
theorem d_X12_shares_20 : decode cX12_shares 20 = .ok (.iload_n 1, 1) := by decide +kernel
theorem d_X12_shares_21 : decode cX12_shares 21 = .ok (.invokevirtual 228, 3) := by decide +kernel
theorem d_X12_shares_24 : decode cX12_shares 24 = .ok (.istore 7, 2) := by decide +kernel
theorem d_X12_shares_26 : decode cX12_shares 26 = .ok (.aload_n 0, 1) := by decide +kernel
theorem d_X12_shares_27 : decode cX12_shares 27 = .ok (.iload_n 1, 1) := by decide +kernel
theorem d_X12_shares_28 : decode cX12_shares 28 = .ok (.iload 7, 2) := by decide +kernel
theorem d_X12_shares_30 : decode cX12_shares 30 = .ok (.invokevirtual 316, 3) := by decide +kernel
theorem d_X12_shares_33 : decode cX12_shares 33 = .ok (.lstore 8, 2) := by decide +kernel
theorem d_X12_shares_35 : decode cX12_shares 35 = .ok (.aload_n 0, 1) := by decide +kernel
theorem d_X12_shares_36 : decode cX12_shares 36 = .ok (.iload_n 1, 1) := by decide +kernel
theorem d_X12_shares_37 : decode cX12_shares 37 = .ok (.iconst 4, 1) := by decide +kernel
theorem d_X12_shares_38 : decode cX12_shares 38 = .ok (.iload_n 2, 1) := by decide +kernel
theorem d_X12_shares_39 : decode cX12_shares 39 = .ok (.iadd, 1) := by decide +kernel
theorem d_X12_shares_40 : decode cX12_shares 40 = .ok (.lload 5, 2) := by decide +kernel
theorem d_X12_shares_42 : decode cX12_shares 42 = .ok (.invokevirtual 253, 3) := by decide +kernel
theorem d_X12_shares_45 : decode cX12_shares 45 = .ok (.lload 8, 2) := by decide +kernel
theorem d_X12_shares_47 : decode cX12_shares 47 = .ok (.lconst 0, 1) := by decide +kernel
theorem d_X12_shares_48 : decode cX12_shares 48 = .ok (.lcmp, 1) := by decide +kernel
theorem d_X12_shares_49 : decode cX12_shares 49 = .ok (.ifCond .ne 4, 3) := by decide +kernel
theorem d_X12_shares_52 : decode cX12_shares 52 = .ok (.return_, 1) := by decide +kernel
theorem d_X12_shares_53 : decode cX12_shares 53 = .ok (.iconst 0, 1) := by decide +kernel
theorem d_X12_shares_54 : decode cX12_shares 54 = .ok (.istore 10, 2) := by decide +kernel
theorem d_X12_shares_56 : decode cX12_shares 56 = .ok (.iload 10, 2) := by decide +kernel
theorem d_X12_shares_58 : decode cX12_shares 58 = .ok (.aload_n 0, 1) := by decide +kernel
theorem d_X12_shares_59 : decode cX12_shares 59 = .ok (.invokevirtual 130, 3) := by decide +kernel
theorem d_X12_shares_62 : decode cX12_shares 62 = .ok (.if_icmp .ge 53, 3) := by decide +kernel
theorem d_X12_shares_65 : decode cX12_shares 65 = .ok (.aload_n 0, 1) := by decide +kernel
theorem d_X12_shares_66 : decode cX12_shares 66 = .ok (.iload 10, 2) := by decide +kernel
theorem d_X12_shares_68 : decode cX12_shares 68 = .ok (.iload_n 1, 1) := by decide +kernel
theorem d_X12_shares_69 : decode cX12_shares 69 = .ok (.iload 7, 2) := by decide +kernel
theorem d_X12_shares_71 : decode cX12_shares 71 = .ok (.invokevirtual 241, 3) := by decide +kernel
theorem d_X12_shares_74 : decode cX12_shares 74 = .ok (.ifCond .eq 35, 3) := by decide +kernel
theorem d_X12_shares_77 : decode cX12_shares 77 = .ok (.aload_n 0, 1) := by decide +kernel
theorem d_X12_shares_78 : decode cX12_shares 78 = .ok (.iload 10, 2) := by decide +kernel
theorem d_X12_shares_80 : decode cX12_shares 80 = .ok (.bipush 6, 2) := by decide +kernel
theorem d_X12_shares_82 : decode cX12_shares 82 = .ok (.iload_n 2, 1) := by decide +kernel
theorem d_X12_shares_83 : decode cX12_shares 83 = .ok (.iadd, 1) := by decide +kernel
theorem d_X12_shares_84 : decode cX12_shares 84 = .ok (.aload_n 0, 1) := by decide +kernel
theorem d_X12_shares_85 : decode cX12_shares 85 = .ok (.iload 10, 2) := by decide +kernel
theorem d_X12_shares_87 : decode cX12_shares 87 = .ok (.bipush 6, 2) := by decide +kernel
theorem d_X12_shares_89 : decode cX12_shares 89 = .ok (.iload_n 2, 1) := by decide +kernel
theorem d_X12_shares_90 : decode cX12_shares 90 = .ok (.iadd, 1) := by decide +kernel
theorem d_X12_shares_91 : decode cX12_shares 91 = .ok (.invokevirtual 238, 3) := by decide +kernel
theorem d_X12_shares_94 : decode cX12_shares 94 = .ok (.lload_n 3, 1) := by decide +kernel
theorem d_X12_shares_95 : decode cX12_shares 95 = .ok (.lload 5, 2) := by decide +kernel
theorem d_X12_shares_97 : decode cX12_shares 97 = .ok (.lsub, 1) := by decide +kernel
theorem d_X12_shares_98 : decode cX12_shares 98 = .ok (.ldc2_w 245, 3) := by decide +kernel
theorem d_X12_shares_101 : decode cX12_shares 101 = .ok (.lmul, 1) := by decide +kernel
theorem d_X12_shares_102 : decode cX12_shares 102 = .ok (.lload 8, 2) := by decide +kernel
theorem d_X12_shares_104 : decode cX12_shares 104 = .ok (.ldiv, 1) := by decide +kernel
theorem d_X12_shares_105 : decode cX12_shares 105 = .ok (.ladd, 1) := by decide +kernel
theorem d_X12_shares_106 : decode cX12_shares 106 = .ok (.invokevirtual 250, 3) := by decide +kernel
theorem d_X12_shares_109 : decode cX12_shares 109 = .ok (.iinc 10 1, 3) := by decide +kernel
theorem d_X12_shares_112 : decode cX12_shares 112 = .ok (.goto (-56), 3) := by decide +kernel
theorem d_X12_shares_115 : decode cX12_shares 115 = .ok (.return_, 1) := by decide +kernel
def f_X12_shares_109 (k56 : Int32 → Int32 → Int64 → Int64 → Int32 → Int64 → Int32 → Mem → Option (Unit × Mem)) (v1 : Int32) (v2 : Int32) (v3 : Int64) (v5 : Int64) (v7 : Int32) (v8 : Int64) (v10 : Int32) (S : Mem) : Option (Unit × Mem) := (k56 v1 v2 v3 v5 v7 v8 (v10 + 1) S)
set_option maxRecDepth 20000 in
theorem t_X12_shares_109 {X : MC} {Γ : GG} (C : CX X Γ cX12_shares 11 "TickPoolsModel" 3 70) (hr : X.2.2.2.2.2.2.2.2.1.sig.returnType = none) {k56 : Int32 → Int32 → Int64 → Int64 → Int32 → Int64 → Int32 → Mem → Option (Unit × Mem)} {q : Unit × Mem} (hk56 : ∀ (v1 : Int32) (v2 : Int32) (v3 : Int64) (v5 : Int64) (v7 : Int32) (v8 : Int64) (v10 : Int32) (S : Mem), k56 v1 v2 v3 v5 v7 v8 v10 S = some q → ZZ X Γ 11 (QQ X Γ none q.2) S 56 [(0, aR 20), (1, aI v1), (2, aI v2), (3, aJ v3), (5, aJ v5), (7, aI v7), (8, aJ v8), (10, aI v10)] []) (v1 : Int32) (v2 : Int32) (v3 : Int64) (v5 : Int64) (v7 : Int32) (v8 : Int64) (v10 : Int32) (S : Mem) (hf : f_X12_shares_109 k56 v1 v2 v3 v5 v7 v8 v10 S = some q) : ZZ X Γ 11 (QQ X Γ none q.2) S 109 [(0, aR 20), (1, aI v1), (2, aI v2), (3, aJ v3), (5, aJ v5), (7, aI v7), (8, aJ v8), (10, aI v10)] [] := by
  unfold f_X12_shares_109 at hf
  refine z_iinc (j := 7) (v := (v10 + 1)) (lv' := [(10, aI (v10 + 1)), (0, aR 20), (1, aI v1), (2, aI v2), (3, aJ v3), (5, aJ v5), (7, aI v7), (8, aJ v8)]) C d_X12_shares_109 rfl rfl (by decide) rfl ?_
  refine z_goto (tgt := 56) C d_X12_shares_112 (by decide) ?_
  exact z_sub [1, 2, 3, 4, 5, 6, 7, 0] rfl (hk56 _ _ _ _ _ _ _ _ hf)
def f_X12_shares_56B (k56 : Int32 → Int32 → Int64 → Int64 → Int32 → Int64 → Int32 → Mem → Option (Unit × Mem)) (v1 : Int32) (v2 : Int32) (v3 : Int64) (v5 : Int64) (v7 : Int32) (v8 : Int64) (v10 : Int32) (S : Mem) : Option (Unit × Mem) := ((f_X12_stakes S).bind fun q59 => (if q59.1 ≤ v10 then (some ((), q59.2)) else ((f_X12_isAcross v10 v1 v7 q59.2).bind fun q71 => (if q71.1 = 0 then (f_X12_shares_109 k56 v1 v2 v3 v5 v7 v8 v10 q71.2) else ((f_X12_ofStake v10 (6 + v2) q71.2).bind fun q91 => (if v8 = 0 then none else ((f_X12_setStake v10 (6 + v2) (q91.1 + (((v3 - v5) * 1048576) / v8)) q91.2).bind fun q106 => (f_X12_shares_109 k56 v1 v2 v3 v5 v7 v8 v10 q106.2))))))))
set_option maxRecDepth 20000 in
theorem t_X12_shares_56B {X : MC} {Γ : GG} (C : CX X Γ cX12_shares 11 "TickPoolsModel" 3 70) (hr : X.2.2.2.2.2.2.2.2.1.sig.returnType = none) {k56 : Int32 → Int32 → Int64 → Int64 → Int32 → Int64 → Int32 → Mem → Option (Unit × Mem)} {q : Unit × Mem} (hk56 : ∀ (v1 : Int32) (v2 : Int32) (v3 : Int64) (v5 : Int64) (v7 : Int32) (v8 : Int64) (v10 : Int32) (S : Mem), k56 v1 v2 v3 v5 v7 v8 v10 S = some q → ZZ X Γ 11 (QQ X Γ none q.2) S 56 [(0, aR 20), (1, aI v1), (2, aI v2), (3, aJ v3), (5, aJ v5), (7, aI v7), (8, aJ v8), (10, aI v10)] []) (v1 : Int32) (v2 : Int32) (v3 : Int64) (v5 : Int64) (v7 : Int32) (v8 : Int64) (v10 : Int32) (S : Mem) (hf : f_X12_shares_56B k56 v1 v2 v3 v5 v7 v8 v10 S = some q) : ZZ X Γ 11 (QQ X Γ none q.2) S 56 [(0, aR 20), (1, aI v1), (2, aI v2), (3, aJ v3), (5, aJ v5), (7, aI v7), (8, aJ v8), (10, aI v10)] [] := by
  unfold f_X12_shares_56B at hf
  refine z_iload (j := 7) C d_X12_shares_56 rfl ?_
  refine z_aload_n (j := 0) C d_X12_shares_58 rfl ?_
  obtain ⟨q59, hF, hf⟩ := bd hf
  refine z_callV1 (rest := [aI v10]) C [] rfl (by decide) rfl rfl k_X12_stakes tw_1486 ⟨by decide, by decide⟩ (Nat.le_of_ble_eq_true rfl) d_X12_shares_59 (c_X12_stakes C.inj hF) rfl ?_
  refine z_icmp_ge (tgt := 115) C d_X12_shares_62 (by decide) hf (fun c62 hf => ?_) (fun c62 hf => ?_)
  · exact r_v C hr d_X12_shares_115 hf
  · refine z_aload_n (j := 0) C d_X12_shares_65 rfl ?_
    refine z_iload (j := 7) C d_X12_shares_66 rfl ?_
    refine z_iload_n (j := 1) C d_X12_shares_68 rfl ?_
    refine z_iload (j := 5) C d_X12_shares_69 rfl ?_
    obtain ⟨q71, hF, hf⟩ := bd hf
    refine z_callV1 (rest := []) C [aI v10, aI v1, aI v7] rfl (by decide) rfl rfl k_X12_isAcross tw_1624 ⟨by decide, by decide⟩ (Nat.le_of_ble_eq_true rfl) d_X12_shares_71 (c_X12_isAcross C.inj hF) rfl ?_
    refine z_if_eq (tgt := 109) C d_X12_shares_74 (by decide) hf (fun c74 hf => ?_) (fun c74 hf => ?_)
    · exact z_sub [0, 1, 2, 3, 4, 5, 6, 7] rfl (t_X12_shares_109 C hr hk56 _ _ _ _ _ _ _ _ hf)
    · refine z_aload_n (j := 0) C d_X12_shares_77 rfl ?_
      refine z_iload (j := 7) C d_X12_shares_78 rfl ?_
      refine z_bipush (v := 6) C d_X12_shares_80 (by decide) ?_
      refine z_iload_n (j := 2) C d_X12_shares_82 rfl ?_
      refine z_iadd C d_X12_shares_83 ?_
      refine z_aload_n (j := 0) C d_X12_shares_84 rfl ?_
      refine z_iload (j := 7) C d_X12_shares_85 rfl ?_
      refine z_bipush (v := 6) C d_X12_shares_87 (by decide) ?_
      refine z_iload_n (j := 2) C d_X12_shares_89 rfl ?_
      refine z_iadd C d_X12_shares_90 ?_
      obtain ⟨q91, hF, hf⟩ := bd hf
      refine z_callV1 (rest := [aI (6 + v2), aI v10, aR 20]) C [aI v10, aI (6 + v2)] rfl (by decide) rfl rfl k_X12_ofStake tw_1490 ⟨by decide, by decide⟩ (Nat.le_of_ble_eq_true rfl) d_X12_shares_91 (c_X12_ofStake C.inj hF) rfl ?_
      refine z_lload_n (j := 3) C d_X12_shares_94 rfl ?_
      refine z_lload (j := 4) C d_X12_shares_95 rfl ?_
      refine z_lsub C d_X12_shares_97 ?_
      refine z_ldc2 (v := 1048576) C tw_1537 d_X12_shares_98 ?_
      refine z_lmul C d_X12_shares_101 ?_
      refine z_lload (j := 6) C d_X12_shares_102 rfl ?_
      obtain ⟨hz104, hf⟩ := gdn hf
      refine z_ldiv C d_X12_shares_104 hz104 ?_
      refine z_ladd C d_X12_shares_105 ?_
      obtain ⟨q106, hF, hf⟩ := bd hf
      refine z_callV0 (rest := []) C [aI v10, aI (6 + v2), aJ (q91.1 + (((v3 - v5) * 1048576) / v8))] rfl (by decide) rfl rfl k_X12_setStake tw_1525 ⟨by decide, by decide⟩ (Nat.le_of_ble_eq_true rfl) d_X12_shares_106 (c_X12_setStake C.inj hF) rfl ?_
      exact z_sub [0, 1, 2, 3, 4, 5, 6, 7] rfl (t_X12_shares_109 C hr hk56 _ _ _ _ _ _ _ _ hf)
def f_X12_shares_56 : Nat → Int32 → Int32 → Int64 → Int64 → Int32 → Int64 → Int32 → Mem → Option (Unit × Mem)
  | 0 => fun _ _ _ _ _ _ _ _ => none
  | n + 1 => f_X12_shares_56B (f_X12_shares_56 n)
theorem t_X12_shares_56 {X : MC} {Γ : GG} (C : CX X Γ cX12_shares 11 "TickPoolsModel" 3 70) (hr : X.2.2.2.2.2.2.2.2.1.sig.returnType = none) {q : Unit × Mem} : ∀ (n : Nat) (v1 : Int32) (v2 : Int32) (v3 : Int64) (v5 : Int64) (v7 : Int32) (v8 : Int64) (v10 : Int32) (S : Mem) (hf : f_X12_shares_56 n v1 v2 v3 v5 v7 v8 v10 S = some q), ZZ X Γ 11 (QQ X Γ none q.2) S 56 [(0, aR 20), (1, aI v1), (2, aI v2), (3, aJ v3), (5, aJ v5), (7, aI v7), (8, aJ v8), (10, aI v10)] []
  | 0, _, _, _, _, _, _, _, _, hf => nomatch (show (none : Option (Unit × Mem)) = some q from hf)
  | n + 1, v1, v2, v3, v5, v7, v8, v10, S, hf => t_X12_shares_56B C hr (t_X12_shares_56 C hr n) v1 v2 v3 v5 v7 v8 v10 S hf
def f_X12_shares_19 (v1 : Int32) (v2 : Int32) (v3 : Int64) (v5 : Int64) (S : Mem) : Option (Unit × Mem) := ((f_X12_zoneNow v1 S).bind fun q21 => ((f_X12_depthOf v1 q21.1 q21.2).bind fun q30 => ((f_X12_morePool v1 (4 + v2) v5 q30.2).bind fun q42 => (if q30.1 = 0 then (some ((), q42.2)) else (f_X12_shares_56  100000 v1 v2 v3 v5 q21.1 q30.1 0 q42.2)))))
set_option maxRecDepth 20000 in
theorem t_X12_shares_19 {X : MC} {Γ : GG} (C : CX X Γ cX12_shares 11 "TickPoolsModel" 3 70) (hr : X.2.2.2.2.2.2.2.2.1.sig.returnType = none) {q : Unit × Mem} (v1 : Int32) (v2 : Int32) (v3 : Int64) (v5 : Int64) (S : Mem) (hf : f_X12_shares_19 v1 v2 v3 v5 S = some q) : ZZ X Γ 11 (QQ X Γ none q.2) S 19 [(0, aR 20), (1, aI v1), (2, aI v2), (3, aJ v3), (5, aJ v5)] [] := by
  unfold f_X12_shares_19 at hf
  refine z_aload_n (j := 0) C d_X12_shares_19 rfl ?_
  refine z_iload_n (j := 1) C d_X12_shares_20 rfl ?_
  obtain ⟨q21, hF, hf⟩ := bd hf
  refine z_callV1 (rest := []) C [aI v1] rfl (by decide) rfl rfl k_X12_zoneNow tw_1499 ⟨by decide, by decide⟩ (Nat.le_of_ble_eq_true rfl) d_X12_shares_21 (c_X12_zoneNow C.inj hF) rfl ?_
  refine z_istore (lv' := [(7, aI q21.1), (0, aR 20), (1, aI v1), (2, aI v2), (3, aJ v3), (5, aJ v5)]) C d_X12_shares_24 (by decide) rfl ?_
  refine z_aload_n (j := 1) C d_X12_shares_26 rfl ?_
  refine z_iload_n (j := 2) C d_X12_shares_27 rfl ?_
  refine z_iload (j := 0) C d_X12_shares_28 rfl ?_
  obtain ⟨q30, hF, hf⟩ := bd hf
  refine z_callV1 (rest := []) C [aI v1, aI q21.1] rfl (by decide) rfl rfl k_X12_depthOf tw_1620 ⟨by decide, by decide⟩ (Nat.le_of_ble_eq_true rfl) d_X12_shares_30 (c_X12_depthOf C.inj hF) rfl ?_
  refine z_lstore (lv' := [(8, aJ q30.1), (7, aI q21.1), (0, aR 20), (1, aI v1), (2, aI v2), (3, aJ v3), (5, aJ v5)]) C d_X12_shares_33 (by decide) rfl ?_
  refine z_aload_n (j := 2) C d_X12_shares_35 rfl ?_
  refine z_iload_n (j := 3) C d_X12_shares_36 rfl ?_
  refine z_iconst (v := 4) C d_X12_shares_37 (by decide) ?_
  refine z_iload_n (j := 4) C d_X12_shares_38 rfl ?_
  refine z_iadd C d_X12_shares_39 ?_
  refine z_lload (j := 6) C d_X12_shares_40 rfl ?_
  obtain ⟨q42, hF, hf⟩ := bd hf
  refine z_callV0 (rest := []) C [aI v1, aI (4 + v2), aJ v5] rfl (by decide) rfl rfl k_X12_morePool tw_1542 ⟨by decide, by decide⟩ (Nat.le_of_ble_eq_true rfl) d_X12_shares_42 (c_X12_morePool C.inj hF) rfl ?_
  refine z_lload (j := 0) C d_X12_shares_45 rfl ?_
  refine z_lconst (v := 0) C d_X12_shares_47 (by decide) ?_
  refine z_lne (tgt := 53) C d_X12_shares_48 d_X12_shares_49 (by decide) hf (fun c48 hf => ?_) (fun c48 hf => ?_)
  · refine z_iconst (v := 0) C d_X12_shares_53 (by decide) ?_
    refine z_istore (lv' := [(10, aI 0), (8, aJ q30.1), (7, aI q21.1), (0, aR 20), (1, aI v1), (2, aI v2), (3, aJ v3), (5, aJ v5)]) C d_X12_shares_54 (by decide) rfl ?_
    exact z_sub [3, 4, 5, 6, 7, 2, 1, 0] rfl (t_X12_shares_56 C hr  100000 _ _ _ _ _ _ _ _ hf)
  · exact r_v C hr d_X12_shares_52 hf
/-- TickPoolsModel.shares(IIJ)V -/
def f_X12_shares (p1 : Int32) (p2 : Int32) (p3 : Int64) (S : Mem) : Option (Unit × Mem) := (if inb ((5 * p1) + 3) 25 = true then (f_X12_shares_19  p1 p2 p3 ((p3 * (((gI S 22 ((((5 * p1) + 3) : Int32).toNatClampNeg)) : Int32).toInt64)) / 100) S) else none)
set_option maxRecDepth 20000 in
theorem c_X12_shares {l : Launch} {Γ : GG} (hI : Inj Γ) {p1 : Int32} {p2 : Int32} {p3 : Int64} {S : Mem} {q : Unit × Mem} (hf : f_X12_shares p1 p2 p3 S = some q) : MM l Γ yX12_shares cX12_shares 11 (none) 3 70 [aR 20, aI p1, aI p2, aJ p3] S none q.2 := by
  refine met_of hI "TickPoolsModel" rfl (by decide +kernel) (Nat.le_of_ble_eq_true rfl) (fun X hX C hr => ?_)
  unfold f_X12_shares at hf
  show ZZ X Γ 11 _ S 0 [(0, aR 20), (1, aI p1), (2, aI p2), (3, aJ p3)] []
  refine z_lload_n (j := 3) C d_X12_shares_0 rfl ?_
  refine z_aload_n (j := 0) C d_X12_shares_1 rfl ?_
  refine zg_X12_told C rfl tw_1215 d_X12_shares_2 ?_
  refine z_iconst (v := 5) C d_X12_shares_5 (by decide) ?_
  refine z_iload_n (j := 1) C d_X12_shares_6 rfl ?_
  refine z_imul C d_X12_shares_7 ?_
  refine z_iconst (v := 3) C d_X12_shares_8 (by decide) ?_
  refine z_iadd C d_X12_shares_9 ?_
  obtain ⟨hi10_0, hf⟩ := gd hf
  refine z_iald C rfl hi10_0 d_X12_shares_10 ?_
  refine z_i2l C d_X12_shares_11 ?_
  refine z_lmul C d_X12_shares_12 ?_
  refine z_ldc2 (v := 100) C tw_1653 d_X12_shares_13 ?_
  refine z_ldiv C d_X12_shares_16 (by decide) ?_
  refine z_lstore (lv' := [(5, aJ ((p3 * (((gI S 22 ((((5 * p1) + 3) : Int32).toNatClampNeg)) : Int32).toInt64)) / 100)), (0, aR 20), (1, aI p1), (2, aI p2), (3, aJ p3)]) C d_X12_shares_17 (by decide) rfl ?_
  exact z_sub [1, 2, 3, 4, 0] rfl (t_X12_shares_19 C hr  _ _ _ _ _ hf)
theorem d_X12_wantedTo_0 : decode cX12_wantedTo 0 = .ok (.aload_n 0, 1) := by decide +kernel
theorem d_X12_wantedTo_1 : decode cX12_wantedTo 1 = .ok (.iload_n 1, 1) := by decide +kernel
theorem d_X12_wantedTo_2 : decode cX12_wantedTo 2 = .ok (.aload_n 0, 1) := by decide +kernel
theorem d_X12_wantedTo_3 : decode cX12_wantedTo 3 = .ok (.iload_n 1, 1) := by decide +kernel
theorem d_X12_wantedTo_4 : decode cX12_wantedTo 4 = .ok (.invokevirtual 228, 3) := by decide +kernel
theorem d_X12_wantedTo_7 : decode cX12_wantedTo 7 = .ok (.invokevirtual 316, 3) := by decide +kernel
theorem d_X12_wantedTo_10 : decode cX12_wantedTo 10 = .ok (.lstore 4, 2) := by decide +kernel
theorem d_X12_wantedTo_12 : decode cX12_wantedTo 12 = .ok (.iload_n 2, 1) := by decide +kernel
theorem d_X12_wantedTo_13 : decode cX12_wantedTo 13 = .ok (.ifCond .ne 24, 3) := by decide +kernel
theorem d_X12_wantedTo_16 : decode cX12_wantedTo 16 = .ok (.lload 4, 2) := by decide +kernel
theorem d_X12_wantedTo_18 : decode cX12_wantedTo 18 = .ok (.aload_n 0, 1) := by decide +kernel
theorem d_X12_wantedTo_19 : decode cX12_wantedTo 19 = .ok (.getfield 7, 3) := by decide +kernel
theorem d_X12_wantedTo_22 : decode cX12_wantedTo 22 = .ok (.iload_n 3, 1) := by decide +kernel
theorem d_X12_wantedTo_23 : decode cX12_wantedTo 23 = .ok (.laload, 1) := by decide +kernel
theorem d_X12_wantedTo_24 : decode cX12_wantedTo 24 = .ok (.aload_n 0, 1) := by decide +kernel
theorem d_X12_wantedTo_25 : decode cX12_wantedTo 25 = .ok (.iload_n 1, 1) := by decide +kernel
theorem d_X12_wantedTo_26 : decode cX12_wantedTo 26 = .ok (.iconst 0, 1) := by decide +kernel
theorem d_X12_wantedTo_27 : decode cX12_wantedTo 27 = .ok (.invokevirtual 116, 3) := by decide +kernel
theorem d_X12_wantedTo_30 : decode cX12_wantedTo 30 = .ok (.iconst 1, 1) := by decide +kernel
theorem d_X12_wantedTo_31 : decode cX12_wantedTo 31 = .ok (.invokestatic 231, 3) := by decide +kernel
theorem d_X12_wantedTo_34 : decode cX12_wantedTo 34 = .ok (.goto 21, 3) := by decide +kernel
theorem d_X12_wantedTo_37 : decode cX12_wantedTo 37 = .ok (.lload 4, 2) := by decide +kernel
theorem d_X12_wantedTo_39 : decode cX12_wantedTo 39 = .ok (.aload_n 0, 1) := by decide +kernel
theorem d_X12_wantedTo_40 : decode cX12_wantedTo 40 = .ok (.iload_n 1, 1) := by decide +kernel
theorem d_X12_wantedTo_41 : decode cX12_wantedTo 41 = .ok (.iconst 0, 1) := by decide +kernel
theorem d_X12_wantedTo_42 : decode cX12_wantedTo 42 = .ok (.invokevirtual 116, 3) := by decide +kernel
theorem d_X12_wantedTo_45 : decode cX12_wantedTo 45 = .ok (.aload_n 0, 1) := by decide +kernel
theorem d_X12_wantedTo_46 : decode cX12_wantedTo 46 = .ok (.getfield 7, 3) := by decide +kernel
theorem d_X12_wantedTo_49 : decode cX12_wantedTo 49 = .ok (.iload_n 3, 1) := by decide +kernel
theorem d_X12_wantedTo_50 : decode cX12_wantedTo 50 = .ok (.laload, 1) := by decide +kernel
theorem d_X12_wantedTo_51 : decode cX12_wantedTo 51 = .ok (.iconst 1, 1) := by decide +kernel
theorem d_X12_wantedTo_52 : decode cX12_wantedTo 52 = .ok (.invokestatic 235, 3) := by decide +kernel
theorem d_X12_wantedTo_55 : decode cX12_wantedTo 55 = .ok (.lreturn, 1) := by decide +kernel
def f_X12_wantedTo_55 (s0 : Int64) (S : Mem) : Option (Int64 × Mem) := (some (s0, S))
set_option maxRecDepth 20000 in
theorem t_X12_wantedTo_55 {X : MC} {Γ : GG} (C : CX X Γ cX12_wantedTo 6 "TickPoolsModel" 3 70) (hr : X.2.2.2.2.2.2.2.2.1.sig.returnType = some .long) {q : Int64 × Mem} (s0 : Int64) (S : Mem) (hf : f_X12_wantedTo_55 s0 S = some q) : ZZ X Γ 6 (QQ X Γ (some (aJ q.1)) q.2) S 55 [] [aJ s0] := by
  unfold f_X12_wantedTo_55 at hf
  exact r_l C hr d_X12_wantedTo_55 hf
/-- TickPoolsModel.wantedTo(III)J -/
def f_X12_wantedTo (p1 : Int32) (p2 : Int32) (p3 : Int32) (S : Mem) : Option (Int64 × Mem) := ((f_X12_zoneNow p1 S).bind fun q4 => ((f_X12_depthOf p1 q4.1 q4.2).bind fun q7 => (if p2 = 0 then (if inb p3 41 = true then ((f_X12_ofPool p1 0 q7.2).bind fun q27 => ((f_X12_first q7.1 (gL q7.2 21 ((p3 : Int32).toNatClampNeg)) q27.1 1 q27.2).bind fun q31 => (f_X12_wantedTo_55  q31.1 q31.2))) else none) else ((f_X12_ofPool p1 0 q7.2).bind fun q42 => (if inb p3 41 = true then ((f_X12_second q7.1 q42.1 (gL q42.2 21 ((p3 : Int32).toNatClampNeg)) 1 q42.2).bind fun q52 => (f_X12_wantedTo_55  q52.1 q52.2)) else none)))))
set_option maxRecDepth 20000 in
theorem c_X12_wantedTo {l : Launch} {Γ : GG} (hI : Inj Γ) {p1 : Int32} {p2 : Int32} {p3 : Int32} {S : Mem} {q : Int64 × Mem} (hf : f_X12_wantedTo p1 p2 p3 S = some q) : MM l Γ yX12_wantedTo cX12_wantedTo 6 (some .long) 3 70 [aR 20, aI p1, aI p2, aI p3] S (some (aJ q.1)) q.2 := by
  refine met_of hI "TickPoolsModel" rfl (by decide +kernel) (Nat.le_of_ble_eq_true rfl) (fun X hX C hr => ?_)
  unfold f_X12_wantedTo at hf
  show ZZ X Γ 6 _ S 0 [(0, aR 20), (1, aI p1), (2, aI p2), (3, aI p3)] []
  refine z_aload_n (j := 0) C d_X12_wantedTo_0 rfl ?_
  refine z_iload_n (j := 1) C d_X12_wantedTo_1 rfl ?_
  refine z_aload_n (j := 0) C d_X12_wantedTo_2 rfl ?_
  refine z_iload_n (j := 1) C d_X12_wantedTo_3 rfl ?_
  obtain ⟨q4, hF, hf⟩ := bd hf
  refine z_callV1 (rest := [aI p1, aR 20]) C [aI p1] rfl (by decide) rfl rfl k_X12_zoneNow tw_1499 ⟨by decide, by decide⟩ (Nat.le_of_ble_eq_true rfl) d_X12_wantedTo_4 (c_X12_zoneNow C.inj hF) rfl ?_
  obtain ⟨q7, hF, hf⟩ := bd hf
  refine z_callV1 (rest := []) C [aI p1, aI q4.1] rfl (by decide) rfl rfl k_X12_depthOf tw_1620 ⟨by decide, by decide⟩ (Nat.le_of_ble_eq_true rfl) d_X12_wantedTo_7 (c_X12_depthOf C.inj hF) rfl ?_
  refine z_lstore (lv' := [(4, aJ q7.1), (0, aR 20), (1, aI p1), (2, aI p2), (3, aI p3)]) C d_X12_wantedTo_10 (by decide) rfl ?_
  refine z_iload_n (j := 3) C d_X12_wantedTo_12 rfl ?_
  refine z_if_ne (tgt := 37) C d_X12_wantedTo_13 (by decide) hf (fun c13 hf => ?_) (fun c13 hf => ?_)
  · refine z_lload (j := 0) C d_X12_wantedTo_37 rfl ?_
    refine z_aload_n (j := 1) C d_X12_wantedTo_39 rfl ?_
    refine z_iload_n (j := 2) C d_X12_wantedTo_40 rfl ?_
    refine z_iconst (v := 0) C d_X12_wantedTo_41 (by decide) ?_
    obtain ⟨q42, hF, hf⟩ := bd hf
    refine z_callV1 (rest := [aJ q7.1]) C [aI p1, aI 0] rfl (by decide) rfl rfl k_X12_ofPool tw_1503 ⟨by decide, by decide⟩ (Nat.le_of_ble_eq_true rfl) d_X12_wantedTo_42 (c_X12_ofPool C.inj hF) rfl ?_
    refine z_aload_n (j := 1) C d_X12_wantedTo_45 rfl ?_
    refine zg_X12_rootOf C rfl tw_1211 d_X12_wantedTo_46 ?_
    refine z_iload_n (j := 4) C d_X12_wantedTo_49 rfl ?_
    obtain ⟨hi50_1, hf⟩ := gd hf
    refine z_lald C rfl hi50_1 d_X12_wantedTo_50 ?_
    refine z_iconst (v := 1) C d_X12_wantedTo_51 (by decide) ?_
    obtain ⟨q52, hF, hf⟩ := bd hf
    refine z_callS1 (rest := []) C [aJ q7.1, aJ q42.1, aJ (gL q42.2 21 ((p3 : Int32).toNatClampNeg)), aI 1] k_X12_second tw_1514 ⟨by decide, by decide⟩ (Nat.le_of_ble_eq_true rfl) d_X12_wantedTo_52 (c_X12_second C.inj hF) rfl ?_
    exact z_sub [] rfl (t_X12_wantedTo_55 C hr  _ _ hf)
  · refine z_lload (j := 0) C d_X12_wantedTo_16 rfl ?_
    refine z_aload_n (j := 1) C d_X12_wantedTo_18 rfl ?_
    refine zg_X12_rootOf C rfl tw_1211 d_X12_wantedTo_19 ?_
    refine z_iload_n (j := 4) C d_X12_wantedTo_22 rfl ?_
    obtain ⟨hi23_0, hf⟩ := gd hf
    refine z_lald C rfl hi23_0 d_X12_wantedTo_23 ?_
    refine z_aload_n (j := 1) C d_X12_wantedTo_24 rfl ?_
    refine z_iload_n (j := 2) C d_X12_wantedTo_25 rfl ?_
    refine z_iconst (v := 0) C d_X12_wantedTo_26 (by decide) ?_
    obtain ⟨q27, hF, hf⟩ := bd hf
    refine z_callV1 (rest := [aJ (gL q7.2 21 ((p3 : Int32).toNatClampNeg)), aJ q7.1]) C [aI p1, aI 0] rfl (by decide) rfl rfl k_X12_ofPool tw_1503 ⟨by decide, by decide⟩ (Nat.le_of_ble_eq_true rfl) d_X12_wantedTo_27 (c_X12_ofPool C.inj hF) rfl ?_
    refine z_iconst (v := 1) C d_X12_wantedTo_30 (by decide) ?_
    obtain ⟨q31, hF, hf⟩ := bd hf
    refine z_callS1 (rest := []) C [aJ q7.1, aJ (gL q7.2 21 ((p3 : Int32).toNatClampNeg)), aJ q27.1, aI 1] k_X12_first tw_1507 ⟨by decide, by decide⟩ (Nat.le_of_ble_eq_true rfl) d_X12_wantedTo_31 (c_X12_first C.inj hF) rfl ?_
    refine z_goto (tgt := 55) C d_X12_wantedTo_34 (by decide) ?_
    exact z_sub [] rfl (t_X12_wantedTo_55 C hr  _ _ hf)
theorem d_X12_feeUpon_0 : decode cX12_feeUpon 0 = .ok (.lload_n 2, 1) := by decide +kernel
theorem d_X12_feeUpon_1 : decode cX12_feeUpon 1 = .ok (.aload_n 0, 1) := by decide +kernel
theorem d_X12_feeUpon_2 : decode cX12_feeUpon 2 = .ok (.iload_n 1, 1) := by decide +kernel
theorem d_X12_feeUpon_3 : decode cX12_feeUpon 3 = .ok (.invokevirtual 319, 3) := by decide +kernel
theorem d_X12_feeUpon_6 : decode cX12_feeUpon 6 = .ok (.i2l, 1) := by decide +kernel
theorem d_X12_feeUpon_7 : decode cX12_feeUpon 7 = .ok (.lmul, 1) := by decide +kernel
theorem d_X12_feeUpon_8 : decode cX12_feeUpon 8 = .ok (.sipush 1000, 3) := by decide +kernel
theorem d_X12_feeUpon_11 : decode cX12_feeUpon 11 = .ok (.aload_n 0, 1) := by decide +kernel
theorem d_X12_feeUpon_12 : decode cX12_feeUpon 12 = .ok (.iload_n 1, 1) := by decide +kernel
theorem d_X12_feeUpon_13 : decode cX12_feeUpon 13 = .ok (.invokevirtual 319, 3) := by decide +kernel
theorem d_X12_feeUpon_16 : decode cX12_feeUpon 16 = .ok (.isub, 1) := by decide +kernel
theorem d_X12_feeUpon_17 : decode cX12_feeUpon 17 = .ok (.i2l, 1) := by decide +kernel
theorem d_X12_feeUpon_18 : decode cX12_feeUpon 18 = .ok (.invokestatic 224, 3) := by decide +kernel
theorem d_X12_feeUpon_21 : decode cX12_feeUpon 21 = .ok (.lreturn, 1) := by decide +kernel
/-- TickPoolsModel.feeUpon(IJ)J -/
def f_X12_feeUpon (p1 : Int32) (p2 : Int64) (S : Mem) : Option (Int64 × Mem) := ((f_X12_feeOf p1 S).bind fun q3 => ((f_X12_feeOf p1 q3.2).bind fun q13 => ((f_X12_up (p2 * (q3.1.toInt64)) (((1000 - q13.1) : Int32).toInt64) q13.2).bind fun q18 => (some (q18.1, q18.2)))))
set_option maxRecDepth 20000 in
theorem c_X12_feeUpon {l : Launch} {Γ : GG} (hI : Inj Γ) {p1 : Int32} {p2 : Int64} {S : Mem} {q : Int64 × Mem} (hf : f_X12_feeUpon p1 p2 S = some q) : MM l Γ yX12_feeUpon cX12_feeUpon 4 (some .long) 1 23 [aR 20, aI p1, aJ p2] S (some (aJ q.1)) q.2 := by
  refine met_of hI "TickPoolsModel" rfl (by decide +kernel) (Nat.le_of_ble_eq_true rfl) (fun X hX C hr => ?_)
  unfold f_X12_feeUpon at hf
  show ZZ X Γ 4 _ S 0 [(0, aR 20), (1, aI p1), (2, aJ p2)] []
  refine z_lload_n (j := 2) C d_X12_feeUpon_0 rfl ?_
  refine z_aload_n (j := 0) C d_X12_feeUpon_1 rfl ?_
  refine z_iload_n (j := 1) C d_X12_feeUpon_2 rfl ?_
  obtain ⟨q3, hF, hf⟩ := bd hf
  refine z_callV1 (rest := [aJ p2]) C [aI p1] rfl (by decide) rfl rfl k_X12_feeOf tw_1628 ⟨by decide, by decide⟩ (Nat.le_of_ble_eq_true rfl) d_X12_feeUpon_3 (c_X12_feeOf C.inj hF) rfl ?_
  refine z_i2l C d_X12_feeUpon_6 ?_
  refine z_lmul C d_X12_feeUpon_7 ?_
  refine z_sipush (v := 1000) C d_X12_feeUpon_8 (by decide) ?_
  refine z_aload_n (j := 0) C d_X12_feeUpon_11 rfl ?_
  refine z_iload_n (j := 1) C d_X12_feeUpon_12 rfl ?_
  obtain ⟨q13, hF, hf⟩ := bd hf
  refine z_callV1 (rest := [aI 1000, aJ (p2 * (q3.1.toInt64))]) C [aI p1] rfl (by decide) rfl rfl k_X12_feeOf tw_1628 ⟨by decide, by decide⟩ (Nat.le_of_ble_eq_true rfl) d_X12_feeUpon_13 (c_X12_feeOf C.inj hF) rfl ?_
  refine z_isub C d_X12_feeUpon_16 ?_
  refine z_i2l C d_X12_feeUpon_17 ?_
  obtain ⟨q18, hF, hf⟩ := bd hf
  refine z_callS1 (rest := []) C [aJ (p2 * (q3.1.toInt64)), aJ (((1000 - q13.1) : Int32).toInt64)] k_X12_up tw_1511 ⟨by decide, by decide⟩ (Nat.le_of_ble_eq_true rfl) d_X12_feeUpon_18 (c_X12_up C.inj hF) rfl ?_
  exact r_l C hr d_X12_feeUpon_21 hf
theorem d_X12_rootBy_0 : decode cX12_rootBy 0 = .ok (.aload_n 0, 1) := by decide +kernel
theorem d_X12_rootBy_1 : decode cX12_rootBy 1 = .ok (.iload_n 1, 1) := by decide +kernel
theorem d_X12_rootBy_2 : decode cX12_rootBy 2 = .ok (.aload_n 0, 1) := by decide +kernel
theorem d_X12_rootBy_3 : decode cX12_rootBy 3 = .ok (.iload_n 1, 1) := by decide +kernel
theorem d_X12_rootBy_4 : decode cX12_rootBy 4 = .ok (.invokevirtual 228, 3) := by decide +kernel
theorem d_X12_rootBy_7 : decode cX12_rootBy 7 = .ok (.invokevirtual 316, 3) := by decide +kernel
theorem d_X12_rootBy_10 : decode cX12_rootBy 10 = .ok (.lstore 5, 2) := by decide +kernel
theorem d_X12_rootBy_12 : decode cX12_rootBy 12 = .ok (.aload_n 0, 1) := by decide +kernel
theorem d_X12_rootBy_13 : decode cX12_rootBy 13 = .ok (.iload_n 1, 1) := by decide +kernel
theorem d_X12_rootBy_14 : decode cX12_rootBy 14 = .ok (.iconst 0, 1) := by decide +kernel
theorem d_X12_rootBy_15 : decode cX12_rootBy 15 = .ok (.invokevirtual 116, 3) := by decide +kernel
theorem d_X12_rootBy_18 : decode cX12_rootBy 18 = .ok (.lstore 7, 2) := by decide +kernel
theorem d_X12_rootBy_20 : decode cX12_rootBy 20 = .ok (.iload_n 2, 1) := by decide +kernel
theorem d_X12_rootBy_21 : decode cX12_rootBy 21 = .ok (.ifCond .ne 29, 3) := by decide +kernel
theorem d_X12_rootBy_24 : decode cX12_rootBy 24 = .ok (.lload 5, 2) := by decide +kernel
theorem d_X12_rootBy_26 : decode cX12_rootBy 26 = .ok (.ldc2_w 222, 3) := by decide +kernel
theorem d_X12_rootBy_29 : decode cX12_rootBy 29 = .ok (.lmul, 1) := by decide +kernel
theorem d_X12_rootBy_30 : decode cX12_rootBy 30 = .ok (.lload 7, 2) := by decide +kernel
theorem d_X12_rootBy_32 : decode cX12_rootBy 32 = .ok (.lmul, 1) := by decide +kernel
theorem d_X12_rootBy_33 : decode cX12_rootBy 33 = .ok (.lload 5, 2) := by decide +kernel
theorem d_X12_rootBy_35 : decode cX12_rootBy 35 = .ok (.ldc2_w 222, 3) := by decide +kernel
theorem d_X12_rootBy_38 : decode cX12_rootBy 38 = .ok (.lmul, 1) := by decide +kernel
theorem d_X12_rootBy_39 : decode cX12_rootBy 39 = .ok (.lload_n 3, 1) := by decide +kernel
theorem d_X12_rootBy_40 : decode cX12_rootBy 40 = .ok (.lload 7, 2) := by decide +kernel
theorem d_X12_rootBy_42 : decode cX12_rootBy 42 = .ok (.lmul, 1) := by decide +kernel
theorem d_X12_rootBy_43 : decode cX12_rootBy 43 = .ok (.ladd, 1) := by decide +kernel
theorem d_X12_rootBy_44 : decode cX12_rootBy 44 = .ok (.invokestatic 224, 3) := by decide +kernel
theorem d_X12_rootBy_47 : decode cX12_rootBy 47 = .ok (.goto 14, 3) := by decide +kernel
theorem d_X12_rootBy_50 : decode cX12_rootBy 50 = .ok (.lload 7, 2) := by decide +kernel
theorem d_X12_rootBy_52 : decode cX12_rootBy 52 = .ok (.lload_n 3, 1) := by decide +kernel
theorem d_X12_rootBy_53 : decode cX12_rootBy 53 = .ok (.ldc2_w 222, 3) := by decide +kernel
theorem d_X12_rootBy_56 : decode cX12_rootBy 56 = .ok (.lmul, 1) := by decide +kernel
theorem d_X12_rootBy_57 : decode cX12_rootBy 57 = .ok (.lload 5, 2) := by decide +kernel
theorem d_X12_rootBy_59 : decode cX12_rootBy 59 = .ok (.ldiv, 1) := by decide +kernel
theorem d_X12_rootBy_60 : decode cX12_rootBy 60 = .ok (.ladd, 1) := by decide +kernel
theorem d_X12_rootBy_61 : decode cX12_rootBy 61 = .ok (.lreturn, 1) := by decide +kernel
def f_X12_rootBy_61 (s0 : Int64) (S : Mem) : Option (Int64 × Mem) := (some (s0, S))
set_option maxRecDepth 20000 in
theorem t_X12_rootBy_61 {X : MC} {Γ : GG} (C : CX X Γ cX12_rootBy 9 "TickPoolsModel" 3 70) (hr : X.2.2.2.2.2.2.2.2.1.sig.returnType = some .long) {q : Int64 × Mem} (s0 : Int64) (S : Mem) (hf : f_X12_rootBy_61 s0 S = some q) : ZZ X Γ 9 (QQ X Γ (some (aJ q.1)) q.2) S 61 [] [aJ s0] := by
  unfold f_X12_rootBy_61 at hf
  exact r_l C hr d_X12_rootBy_61 hf
/-- TickPoolsModel.rootBy(IIJ)J -/
def f_X12_rootBy (p1 : Int32) (p2 : Int32) (p3 : Int64) (S : Mem) : Option (Int64 × Mem) := ((f_X12_zoneNow p1 S).bind fun q4 => ((f_X12_depthOf p1 q4.1 q4.2).bind fun q7 => ((f_X12_ofPool p1 0 q7.2).bind fun q15 => (if p2 = 0 then ((f_X12_up ((q7.1 * 100000) * q15.1) ((q7.1 * 100000) + (p3 * q15.1)) q15.2).bind fun q44 => (f_X12_rootBy_61  q44.1 q44.2)) else (if q7.1 = 0 then none else (f_X12_rootBy_61  (q15.1 + ((p3 * 100000) / q7.1)) q15.2))))))
set_option maxRecDepth 20000 in
theorem c_X12_rootBy {l : Launch} {Γ : GG} (hI : Inj Γ) {p1 : Int32} {p2 : Int32} {p3 : Int64} {S : Mem} {q : Int64 × Mem} (hf : f_X12_rootBy p1 p2 p3 S = some q) : MM l Γ yX12_rootBy cX12_rootBy 9 (some .long) 3 70 [aR 20, aI p1, aI p2, aJ p3] S (some (aJ q.1)) q.2 := by
  refine met_of hI "TickPoolsModel" rfl (by decide +kernel) (Nat.le_of_ble_eq_true rfl) (fun X hX C hr => ?_)
  unfold f_X12_rootBy at hf
  show ZZ X Γ 9 _ S 0 [(0, aR 20), (1, aI p1), (2, aI p2), (3, aJ p3)] []
  refine z_aload_n (j := 0) C d_X12_rootBy_0 rfl ?_
  refine z_iload_n (j := 1) C d_X12_rootBy_1 rfl ?_
  refine z_aload_n (j := 0) C d_X12_rootBy_2 rfl ?_
  refine z_iload_n (j := 1) C d_X12_rootBy_3 rfl ?_
  obtain ⟨q4, hF, hf⟩ := bd hf
  refine z_callV1 (rest := [aI p1, aR 20]) C [aI p1] rfl (by decide) rfl rfl k_X12_zoneNow tw_1499 ⟨by decide, by decide⟩ (Nat.le_of_ble_eq_true rfl) d_X12_rootBy_4 (c_X12_zoneNow C.inj hF) rfl ?_
  obtain ⟨q7, hF, hf⟩ := bd hf
  refine z_callV1 (rest := []) C [aI p1, aI q4.1] rfl (by decide) rfl rfl k_X12_depthOf tw_1620 ⟨by decide, by decide⟩ (Nat.le_of_ble_eq_true rfl) d_X12_rootBy_7 (c_X12_depthOf C.inj hF) rfl ?_
  refine z_lstore (lv' := [(5, aJ q7.1), (0, aR 20), (1, aI p1), (2, aI p2), (3, aJ p3)]) C d_X12_rootBy_10 (by decide) rfl ?_
  refine z_aload_n (j := 1) C d_X12_rootBy_12 rfl ?_
  refine z_iload_n (j := 2) C d_X12_rootBy_13 rfl ?_
  refine z_iconst (v := 0) C d_X12_rootBy_14 (by decide) ?_
  obtain ⟨q15, hF, hf⟩ := bd hf
  refine z_callV1 (rest := []) C [aI p1, aI 0] rfl (by decide) rfl rfl k_X12_ofPool tw_1503 ⟨by decide, by decide⟩ (Nat.le_of_ble_eq_true rfl) d_X12_rootBy_15 (c_X12_ofPool C.inj hF) rfl ?_
  refine z_lstore (lv' := [(7, aJ q15.1), (5, aJ q7.1), (0, aR 20), (1, aI p1), (2, aI p2), (3, aJ p3)]) C d_X12_rootBy_18 (by decide) rfl ?_
  refine z_iload_n (j := 4) C d_X12_rootBy_20 rfl ?_
  refine z_if_ne (tgt := 50) C d_X12_rootBy_21 (by decide) hf (fun c21 hf => ?_) (fun c21 hf => ?_)
  · refine z_lload (j := 0) C d_X12_rootBy_50 rfl ?_
    refine z_lload_n (j := 5) C d_X12_rootBy_52 rfl ?_
    refine z_ldc2 (v := 100000) C tw_1510 d_X12_rootBy_53 ?_
    refine z_lmul C d_X12_rootBy_56 ?_
    refine z_lload (j := 1) C d_X12_rootBy_57 rfl ?_
    obtain ⟨hz59, hf⟩ := gdn hf
    refine z_ldiv C d_X12_rootBy_59 hz59 ?_
    refine z_ladd C d_X12_rootBy_60 ?_
    exact z_sub [] rfl (t_X12_rootBy_61 C hr  _ _ hf)
  · refine z_lload (j := 1) C d_X12_rootBy_24 rfl ?_
    refine z_ldc2 (v := 100000) C tw_1510 d_X12_rootBy_26 ?_
    refine z_lmul C d_X12_rootBy_29 ?_
    refine z_lload (j := 0) C d_X12_rootBy_30 rfl ?_
    refine z_lmul C d_X12_rootBy_32 ?_
    refine z_lload (j := 1) C d_X12_rootBy_33 rfl ?_
    refine z_ldc2 (v := 100000) C tw_1510 d_X12_rootBy_35 ?_
    refine z_lmul C d_X12_rootBy_38 ?_
    refine z_lload_n (j := 5) C d_X12_rootBy_39 rfl ?_
    refine z_lload (j := 0) C d_X12_rootBy_40 rfl ?_
    refine z_lmul C d_X12_rootBy_42 ?_
    refine z_ladd C d_X12_rootBy_43 ?_
    obtain ⟨q44, hF, hf⟩ := bd hf
    refine z_callS1 (rest := []) C [aJ ((q7.1 * 100000) * q15.1), aJ ((q7.1 * 100000) + (p3 * q15.1))] k_X12_up tw_1511 ⟨by decide, by decide⟩ (Nat.le_of_ble_eq_true rfl) d_X12_rootBy_44 (c_X12_up C.inj hF) rfl ?_
    refine z_goto (tgt := 61) C d_X12_rootBy_47 (by decide) ?_
    exact z_sub [] rfl (t_X12_rootBy_61 C hr  _ _ hf)
theorem d_X12_rootByOut_0 : decode cX12_rootByOut 0 = .ok (.aload_n 0, 1) := by decide +kernel
theorem d_X12_rootByOut_1 : decode cX12_rootByOut 1 = .ok (.iload_n 1, 1) := by decide +kernel
theorem d_X12_rootByOut_2 : decode cX12_rootByOut 2 = .ok (.aload_n 0, 1) := by decide +kernel
theorem d_X12_rootByOut_3 : decode cX12_rootByOut 3 = .ok (.iload_n 1, 1) := by decide +kernel
theorem d_X12_rootByOut_4 : decode cX12_rootByOut 4 = .ok (.invokevirtual 228, 3) := by decide +kernel
theorem d_X12_rootByOut_7 : decode cX12_rootByOut 7 = .ok (.invokevirtual 316, 3) := by decide +kernel
theorem d_X12_rootByOut_10 : decode cX12_rootByOut 10 = .ok (.lstore 5, 2) := by decide +kernel
theorem d_X12_rootByOut_12 : decode cX12_rootByOut 12 = .ok (.aload_n 0, 1) := by decide +kernel
theorem d_X12_rootByOut_13 : decode cX12_rootByOut 13 = .ok (.iload_n 1, 1) := by decide +kernel
theorem d_X12_rootByOut_14 : decode cX12_rootByOut 14 = .ok (.iconst 0, 1) := by decide +kernel
theorem d_X12_rootByOut_15 : decode cX12_rootByOut 15 = .ok (.invokevirtual 116, 3) := by decide +kernel
theorem d_X12_rootByOut_18 : decode cX12_rootByOut 18 = .ok (.lstore 7, 2) := by decide +kernel
theorem d_X12_rootByOut_20 : decode cX12_rootByOut 20 = .ok (.iload_n 2, 1) := by decide +kernel
theorem d_X12_rootByOut_21 : decode cX12_rootByOut 21 = .ok (.ifCond .ne 19, 3) := by decide +kernel
theorem d_X12_rootByOut_24 : decode cX12_rootByOut 24 = .ok (.lload 7, 2) := by decide +kernel
theorem d_X12_rootByOut_26 : decode cX12_rootByOut 26 = .ok (.lload_n 3, 1) := by decide +kernel
theorem d_X12_rootByOut_27 : decode cX12_rootByOut 27 = .ok (.ldc2_w 222, 3) := by decide +kernel
theorem d_X12_rootByOut_30 : decode cX12_rootByOut 30 = .ok (.lmul, 1) := by decide +kernel
theorem d_X12_rootByOut_31 : decode cX12_rootByOut 31 = .ok (.lload 5, 2) := by decide +kernel
theorem d_X12_rootByOut_33 : decode cX12_rootByOut 33 = .ok (.invokestatic 224, 3) := by decide +kernel
theorem d_X12_rootByOut_36 : decode cX12_rootByOut 36 = .ok (.lsub, 1) := by decide +kernel
theorem d_X12_rootByOut_37 : decode cX12_rootByOut 37 = .ok (.goto 26, 3) := by decide +kernel
theorem d_X12_rootByOut_40 : decode cX12_rootByOut 40 = .ok (.lload 5, 2) := by decide +kernel
theorem d_X12_rootByOut_42 : decode cX12_rootByOut 42 = .ok (.ldc2_w 222, 3) := by decide +kernel
theorem d_X12_rootByOut_45 : decode cX12_rootByOut 45 = .ok (.lmul, 1) := by decide +kernel
theorem d_X12_rootByOut_46 : decode cX12_rootByOut 46 = .ok (.lload 7, 2) := by decide +kernel
theorem d_X12_rootByOut_48 : decode cX12_rootByOut 48 = .ok (.lmul, 1) := by decide +kernel
theorem d_X12_rootByOut_49 : decode cX12_rootByOut 49 = .ok (.lload 5, 2) := by decide +kernel
theorem d_X12_rootByOut_51 : decode cX12_rootByOut 51 = .ok (.ldc2_w 222, 3) := by decide +kernel
theorem d_X12_rootByOut_54 : decode cX12_rootByOut 54 = .ok (.lmul, 1) := by decide +kernel
theorem d_X12_rootByOut_55 : decode cX12_rootByOut 55 = .ok (.lload_n 3, 1) := by decide +kernel
theorem d_X12_rootByOut_56 : decode cX12_rootByOut 56 = .ok (.lload 7, 2) := by decide +kernel
theorem d_X12_rootByOut_58 : decode cX12_rootByOut 58 = .ok (.lmul, 1) := by decide +kernel
theorem d_X12_rootByOut_59 : decode cX12_rootByOut 59 = .ok (.lsub, 1) := by decide +kernel
theorem d_X12_rootByOut_60 : decode cX12_rootByOut 60 = .ok (.invokestatic 224, 3) := by decide +kernel
theorem d_X12_rootByOut_63 : decode cX12_rootByOut 63 = .ok (.lreturn, 1) := by decide +kernel
def f_X12_rootByOut_63 (s0 : Int64) (S : Mem) : Option (Int64 × Mem) := (some (s0, S))
set_option maxRecDepth 20000 in
theorem t_X12_rootByOut_63 {X : MC} {Γ : GG} (C : CX X Γ cX12_rootByOut 9 "TickPoolsModel" 3 70) (hr : X.2.2.2.2.2.2.2.2.1.sig.returnType = some .long) {q : Int64 × Mem} (s0 : Int64) (S : Mem) (hf : f_X12_rootByOut_63 s0 S = some q) : ZZ X Γ 9 (QQ X Γ (some (aJ q.1)) q.2) S 63 [] [aJ s0] := by
  unfold f_X12_rootByOut_63 at hf
  exact r_l C hr d_X12_rootByOut_63 hf
/-- TickPoolsModel.rootByOut(IIJ)J -/
def f_X12_rootByOut (p1 : Int32) (p2 : Int32) (p3 : Int64) (S : Mem) : Option (Int64 × Mem) := ((f_X12_zoneNow p1 S).bind fun q4 => ((f_X12_depthOf p1 q4.1 q4.2).bind fun q7 => ((f_X12_ofPool p1 0 q7.2).bind fun q15 => (if p2 = 0 then ((f_X12_up (p3 * 100000) q7.1 q15.2).bind fun q33 => (f_X12_rootByOut_63  (q15.1 - q33.1) q33.2)) else ((f_X12_up ((q7.1 * 100000) * q15.1) ((q7.1 * 100000) - (p3 * q15.1)) q15.2).bind fun q60 => (f_X12_rootByOut_63  q60.1 q60.2))))))
set_option maxRecDepth 20000 in
theorem c_X12_rootByOut {l : Launch} {Γ : GG} (hI : Inj Γ) {p1 : Int32} {p2 : Int32} {p3 : Int64} {S : Mem} {q : Int64 × Mem} (hf : f_X12_rootByOut p1 p2 p3 S = some q) : MM l Γ yX12_rootByOut cX12_rootByOut 9 (some .long) 3 70 [aR 20, aI p1, aI p2, aJ p3] S (some (aJ q.1)) q.2 := by
  refine met_of hI "TickPoolsModel" rfl (by decide +kernel) (Nat.le_of_ble_eq_true rfl) (fun X hX C hr => ?_)
  unfold f_X12_rootByOut at hf
  show ZZ X Γ 9 _ S 0 [(0, aR 20), (1, aI p1), (2, aI p2), (3, aJ p3)] []
  refine z_aload_n (j := 0) C d_X12_rootByOut_0 rfl ?_
  refine z_iload_n (j := 1) C d_X12_rootByOut_1 rfl ?_
  refine z_aload_n (j := 0) C d_X12_rootByOut_2 rfl ?_
  refine z_iload_n (j := 1) C d_X12_rootByOut_3 rfl ?_
  obtain ⟨q4, hF, hf⟩ := bd hf
  refine z_callV1 (rest := [aI p1, aR 20]) C [aI p1] rfl (by decide) rfl rfl k_X12_zoneNow tw_1499 ⟨by decide, by decide⟩ (Nat.le_of_ble_eq_true rfl) d_X12_rootByOut_4 (c_X12_zoneNow C.inj hF) rfl ?_
  obtain ⟨q7, hF, hf⟩ := bd hf
  refine z_callV1 (rest := []) C [aI p1, aI q4.1] rfl (by decide) rfl rfl k_X12_depthOf tw_1620 ⟨by decide, by decide⟩ (Nat.le_of_ble_eq_true rfl) d_X12_rootByOut_7 (c_X12_depthOf C.inj hF) rfl ?_
  refine z_lstore (lv' := [(5, aJ q7.1), (0, aR 20), (1, aI p1), (2, aI p2), (3, aJ p3)]) C d_X12_rootByOut_10 (by decide) rfl ?_
  refine z_aload_n (j := 1) C d_X12_rootByOut_12 rfl ?_
  refine z_iload_n (j := 2) C d_X12_rootByOut_13 rfl ?_
  refine z_iconst (v := 0) C d_X12_rootByOut_14 (by decide) ?_
  obtain ⟨q15, hF, hf⟩ := bd hf
  refine z_callV1 (rest := []) C [aI p1, aI 0] rfl (by decide) rfl rfl k_X12_ofPool tw_1503 ⟨by decide, by decide⟩ (Nat.le_of_ble_eq_true rfl) d_X12_rootByOut_15 (c_X12_ofPool C.inj hF) rfl ?_
  refine z_lstore (lv' := [(7, aJ q15.1), (5, aJ q7.1), (0, aR 20), (1, aI p1), (2, aI p2), (3, aJ p3)]) C d_X12_rootByOut_18 (by decide) rfl ?_
  refine z_iload_n (j := 4) C d_X12_rootByOut_20 rfl ?_
  refine z_if_ne (tgt := 40) C d_X12_rootByOut_21 (by decide) hf (fun c21 hf => ?_) (fun c21 hf => ?_)
  · refine z_lload (j := 1) C d_X12_rootByOut_40 rfl ?_
    refine z_ldc2 (v := 100000) C tw_1510 d_X12_rootByOut_42 ?_
    refine z_lmul C d_X12_rootByOut_45 ?_
    refine z_lload (j := 0) C d_X12_rootByOut_46 rfl ?_
    refine z_lmul C d_X12_rootByOut_48 ?_
    refine z_lload (j := 1) C d_X12_rootByOut_49 rfl ?_
    refine z_ldc2 (v := 100000) C tw_1510 d_X12_rootByOut_51 ?_
    refine z_lmul C d_X12_rootByOut_54 ?_
    refine z_lload_n (j := 5) C d_X12_rootByOut_55 rfl ?_
    refine z_lload (j := 0) C d_X12_rootByOut_56 rfl ?_
    refine z_lmul C d_X12_rootByOut_58 ?_
    refine z_lsub C d_X12_rootByOut_59 ?_
    obtain ⟨q60, hF, hf⟩ := bd hf
    refine z_callS1 (rest := []) C [aJ ((q7.1 * 100000) * q15.1), aJ ((q7.1 * 100000) - (p3 * q15.1))] k_X12_up tw_1511 ⟨by decide, by decide⟩ (Nat.le_of_ble_eq_true rfl) d_X12_rootByOut_60 (c_X12_up C.inj hF) rfl ?_
    exact z_sub [] rfl (t_X12_rootByOut_63 C hr  _ _ hf)
  · refine z_lload (j := 0) C d_X12_rootByOut_24 rfl ?_
    refine z_lload_n (j := 5) C d_X12_rootByOut_26 rfl ?_
    refine z_ldc2 (v := 100000) C tw_1510 d_X12_rootByOut_27 ?_
    refine z_lmul C d_X12_rootByOut_30 ?_
    refine z_lload (j := 1) C d_X12_rootByOut_31 rfl ?_
    obtain ⟨q33, hF, hf⟩ := bd hf
    refine z_callS1 (rest := [aJ q15.1]) C [aJ (p3 * 100000), aJ q7.1] k_X12_up tw_1511 ⟨by decide, by decide⟩ (Nat.le_of_ble_eq_true rfl) d_X12_rootByOut_33 (c_X12_up C.inj hF) rfl ?_
    refine z_lsub C d_X12_rootByOut_36 ?_
    refine z_goto (tgt := 63) C d_X12_rootByOut_37 (by decide) ?_
    exact z_sub [] rfl (t_X12_rootByOut_63 C hr  _ _ hf)
theorem d_X12_zoneBy_0 : decode cX12_zoneBy 0 = .ok (.iload_n 3, 1) := by decide +kernel
theorem d_X12_zoneBy_1 : decode cX12_zoneBy 1 = .ok (.iconst 1, 1) := by decide +kernel
theorem d_X12_zoneBy_2 : decode cX12_zoneBy 2 = .ok (.if_icmp .ne 10, 3) := by decide +kernel
theorem d_X12_zoneBy_5 : decode cX12_zoneBy 5 = .ok (.iload 4, 2) := by decide +kernel
theorem d_X12_zoneBy_7 : decode cX12_zoneBy 7 = .ok (.iconst 1, 1) := by decide +kernel
theorem d_X12_zoneBy_8 : decode cX12_zoneBy 8 = .ok (.isub, 1) := by decide +kernel
theorem d_X12_zoneBy_9 : decode cX12_zoneBy 9 = .ok (.goto 8, 3) := by decide +kernel
theorem d_X12_zoneBy_12 : decode cX12_zoneBy 12 = .ok (.aload_n 0, 1) := by decide +kernel
theorem d_X12_zoneBy_13 : decode cX12_zoneBy 13 = .ok (.iload_n 1, 1) := by decide +kernel
theorem d_X12_zoneBy_14 : decode cX12_zoneBy 14 = .ok (.invokevirtual 228, 3) := by decide +kernel
theorem d_X12_zoneBy_17 : decode cX12_zoneBy 17 = .ok (.istore 5, 2) := by decide +kernel
theorem d_X12_zoneBy_19 : decode cX12_zoneBy 19 = .ok (.iload_n 2, 1) := by decide +kernel
theorem d_X12_zoneBy_20 : decode cX12_zoneBy 20 = .ok (.iload 5, 2) := by decide +kernel
theorem d_X12_zoneBy_22 : decode cX12_zoneBy 22 = .ok (.if_icmp .ge 7, 3) := by decide +kernel
theorem d_X12_zoneBy_25 : decode cX12_zoneBy 25 = .ok (.iload_n 2, 1) := by decide +kernel
theorem d_X12_zoneBy_26 : decode cX12_zoneBy 26 = .ok (.goto 5, 3) := by decide +kernel
theorem d_X12_zoneBy_29 : decode cX12_zoneBy 29 = .ok (.iload 5, 2) := by decide +kernel
theorem d_X12_zoneBy_31 : decode cX12_zoneBy 31 = .ok (.ireturn, 1) := by decide +kernel
def f_X12_zoneBy_31 (s0 : Int32) (S : Mem) : Option (Int32 × Mem) := (some (s0, S))
set_option maxRecDepth 20000 in
theorem t_X12_zoneBy_31 {X : MC} {Γ : GG} (C : CX X Γ cX12_zoneBy 6 "TickPoolsModel" 2 43) (hr : X.2.2.2.2.2.2.2.2.1.sig.returnType = some .int) {q : Int32 × Mem} (s0 : Int32) (S : Mem) (hf : f_X12_zoneBy_31 s0 S = some q) : ZZ X Γ 6 (QQ X Γ (some (aI q.1)) q.2) S 31 [] [aI s0] := by
  unfold f_X12_zoneBy_31 at hf
  exact r_i C hr rfl d_X12_zoneBy_31 hf
def f_X12_zoneBy_17 (v2 : Int32) (s0 : Int32) (S : Mem) : Option (Int32 × Mem) := (if s0 ≤ v2 then (f_X12_zoneBy_31  s0 S) else (f_X12_zoneBy_31  v2 S))
set_option maxRecDepth 20000 in
theorem t_X12_zoneBy_17 {X : MC} {Γ : GG} (C : CX X Γ cX12_zoneBy 6 "TickPoolsModel" 2 43) (hr : X.2.2.2.2.2.2.2.2.1.sig.returnType = some .int) {q : Int32 × Mem} (v2 : Int32) (s0 : Int32) (S : Mem) (hf : f_X12_zoneBy_17 v2 s0 S = some q) : ZZ X Γ 6 (QQ X Γ (some (aI q.1)) q.2) S 17 [(2, aI v2)] [aI s0] := by
  unfold f_X12_zoneBy_17 at hf
  refine z_istore (lv' := [(5, aI s0), (2, aI v2)]) C d_X12_zoneBy_17 (by decide) rfl ?_
  refine z_iload_n (j := 1) C d_X12_zoneBy_19 rfl ?_
  refine z_iload (j := 0) C d_X12_zoneBy_20 rfl ?_
  refine z_icmp_ge (tgt := 29) C d_X12_zoneBy_22 (by decide) hf (fun c22 hf => ?_) (fun c22 hf => ?_)
  · refine z_iload (j := 0) C d_X12_zoneBy_29 rfl ?_
    exact z_sub [] rfl (t_X12_zoneBy_31 C hr  _ _ hf)
  · refine z_iload_n (j := 1) C d_X12_zoneBy_25 rfl ?_
    refine z_goto (tgt := 31) C d_X12_zoneBy_26 (by decide) ?_
    exact z_sub [] rfl (t_X12_zoneBy_31 C hr  _ _ hf)
/-- TickPoolsModel.zoneBy(IIII)I -/
def f_X12_zoneBy (p1 : Int32) (p2 : Int32) (p3 : Int32) (p4 : Int32) (S : Mem) : Option (Int32 × Mem) := (if p3 = 1 then (f_X12_zoneBy_17  p2 (p4 - 1) S) else ((f_X12_zoneNow p1 S).bind fun q14 => (f_X12_zoneBy_17  p2 q14.1 q14.2)))
set_option maxRecDepth 20000 in
theorem c_X12_zoneBy {l : Launch} {Γ : GG} (hI : Inj Γ) {p1 : Int32} {p2 : Int32} {p3 : Int32} {p4 : Int32} {S : Mem} {q : Int32 × Mem} (hf : f_X12_zoneBy p1 p2 p3 p4 S = some q) : MM l Γ yX12_zoneBy cX12_zoneBy 6 (some .int) 2 43 [aR 20, aI p1, aI p2, aI p3, aI p4] S (some (aI q.1)) q.2 := by
  refine met_of hI "TickPoolsModel" rfl (by decide +kernel) (Nat.le_of_ble_eq_true rfl) (fun X hX C hr => ?_)
  unfold f_X12_zoneBy at hf
  show ZZ X Γ 6 _ S 0 [(0, aR 20), (1, aI p1), (2, aI p2), (3, aI p3), (4, aI p4)] []
  refine z_iload_n (j := 3) C d_X12_zoneBy_0 rfl ?_
  refine z_iconst (v := 1) C d_X12_zoneBy_1 (by decide) ?_
  refine z_icmp_ne (tgt := 12) C d_X12_zoneBy_2 (by decide) hf (fun c2 hf => ?_) (fun c2 hf => ?_)
  · refine z_aload_n (j := 0) C d_X12_zoneBy_12 rfl ?_
    refine z_iload_n (j := 1) C d_X12_zoneBy_13 rfl ?_
    obtain ⟨q14, hF, hf⟩ := bd hf
    refine z_callV1 (rest := []) C [aI p1] rfl (by decide) rfl rfl k_X12_zoneNow tw_1499 ⟨by decide, by decide⟩ (Nat.le_of_ble_eq_true rfl) d_X12_zoneBy_14 (c_X12_zoneNow C.inj hF) rfl ?_
    exact z_sub [2] rfl (t_X12_zoneBy_17 C hr  _ _ _ hf)
  · refine z_iload (j := 4) C d_X12_zoneBy_5 rfl ?_
    refine z_iconst (v := 1) C d_X12_zoneBy_7 (by decide) ?_
    refine z_isub C d_X12_zoneBy_8 ?_
    refine z_goto (tgt := 17) C d_X12_zoneBy_9 (by decide) ?_
    exact z_sub [2] rfl (t_X12_zoneBy_17 C hr  _ _ _ hf)
theorem d_X12_drops_0 : decode cX12_drops 0 = .ok (.iconst 0, 1) := by decide +kernel
theorem d_X12_drops_1 : decode cX12_drops 1 = .ok (.istore 4, 2) := by decide +kernel
theorem d_X12_drops_3 : decode cX12_drops 3 = .ok (.iload 4, 2) := by decide +kernel
theorem d_X12_drops_5 : decode cX12_drops 5 = .ok (.aload_n 0, 1) := by decide +kernel
theorem d_X12_drops_6 : decode cX12_drops 6 = .ok (.invokevirtual 130, 3) := by decide +kernel
theorem d_X12_drops_9 : decode cX12_drops 9 = .ok (.if_icmp .ge 109, 3) := by decide +kernel
theorem d_X12_drops_12 : decode cX12_drops 12 = .ok (.aload_n 0, 1) := by decide +kernel
theorem d_X12_drops_13 : decode cX12_drops 13 = .ok (.iload 4, 2) := by decide +kernel
theorem d_X12_drops_15 : decode cX12_drops 15 = .ok (.iconst 1, 1) := by decide +kernel
theorem d_X12_drops_16 : decode cX12_drops 16 = .ok (.invokevirtual 238, 3) := by decide +kernel
theorem d_X12_drops_19 : decode cX12_drops 19 = .ok (.iload_n 1, 1) := by decide +kernel
theorem d_X12_drops_20 : decode cX12_drops 20 = .ok (.i2l, 1) := by decide +kernel
theorem d_X12_drops_21 : decode cX12_drops 21 = .ok (.lcmp, 1) := by decide +kernel
theorem d_X12_drops_22 : decode cX12_drops 22 = .ok (.ifCond .ne 66, 3) := by decide +kernel
theorem d_X12_drops_25 : decode cX12_drops 25 = .ok (.iload_n 2, 1) := by decide +kernel
theorem d_X12_drops_26 : decode cX12_drops 26 = .ok (.ifCond .ne 33, 3) := by decide +kernel
theorem d_X12_drops_29 : decode cX12_drops 29 = .ok (.aload_n 0, 1) := by decide +kernel
theorem d_X12_drops_30 : decode cX12_drops 30 = .ok (.iload 4, 2) := by decide +kernel
theorem d_X12_drops_32 : decode cX12_drops 32 = .ok (.iconst 4, 1) := by decide +kernel
theorem d_X12_drops_33 : decode cX12_drops 33 = .ok (.invokevirtual 238, 3) := by decide +kernel
theorem d_X12_drops_36 : decode cX12_drops 36 = .ok (.ldc2_w 290, 3) := by decide +kernel
theorem d_X12_drops_39 : decode cX12_drops 39 = .ok (.lcmp, 1) := by decide +kernel
theorem d_X12_drops_40 : decode cX12_drops 40 = .ok (.ifCond .ne 48, 3) := by decide +kernel
theorem d_X12_drops_43 : decode cX12_drops 43 = .ok (.aload_n 0, 1) := by decide +kernel
theorem d_X12_drops_44 : decode cX12_drops 44 = .ok (.iload 4, 2) := by decide +kernel
theorem d_X12_drops_46 : decode cX12_drops 46 = .ok (.iconst 2, 1) := by decide +kernel
theorem d_X12_drops_47 : decode cX12_drops 47 = .ok (.invokevirtual 238, 3) := by decide +kernel
theorem d_X12_drops_50 : decode cX12_drops 50 = .ok (.iload_n 3, 1) := by decide +kernel
theorem d_X12_drops_51 : decode cX12_drops 51 = .ok (.i2l, 1) := by decide +kernel
theorem d_X12_drops_52 : decode cX12_drops 52 = .ok (.lcmp, 1) := by decide +kernel
theorem d_X12_drops_53 : decode cX12_drops 53 = .ok (.ifCond .ne 35, 3) := by decide +kernel
theorem d_X12_drops_56 : decode cX12_drops 56 = .ok (.goto 28, 3) := by decide +kernel
theorem d_X12_drops_59 : decode cX12_drops 59 = .ok (.aload_n 0, 1) := by decide +kernel
theorem d_X12_drops_60 : decode cX12_drops 60 = .ok (.iload 4, 2) := by decide +kernel
theorem d_X12_drops_62 : decode cX12_drops 62 = .ok (.iconst 4, 1) := by decide +kernel
theorem d_X12_drops_63 : decode cX12_drops 63 = .ok (.invokevirtual 238, 3) := by decide +kernel
theorem d_X12_drops_66 : decode cX12_drops 66 = .ok (.lconst 1, 1) := by decide +kernel
theorem d_X12_drops_67 : decode cX12_drops 67 = .ok (.lcmp, 1) := by decide +kernel
theorem d_X12_drops_68 : decode cX12_drops 68 = .ok (.ifCond .ne 20, 3) := by decide +kernel
theorem d_X12_drops_71 : decode cX12_drops 71 = .ok (.aload_n 0, 1) := by decide +kernel
theorem d_X12_drops_72 : decode cX12_drops 72 = .ok (.iload 4, 2) := by decide +kernel
theorem d_X12_drops_74 : decode cX12_drops 74 = .ok (.iconst 3, 1) := by decide +kernel
theorem d_X12_drops_75 : decode cX12_drops 75 = .ok (.invokevirtual 238, 3) := by decide +kernel
theorem d_X12_drops_78 : decode cX12_drops 78 = .ok (.iload_n 3, 1) := by decide +kernel
theorem d_X12_drops_79 : decode cX12_drops 79 = .ok (.i2l, 1) := by decide +kernel
theorem d_X12_drops_80 : decode cX12_drops 80 = .ok (.lcmp, 1) := by decide +kernel
theorem d_X12_drops_81 : decode cX12_drops 81 = .ok (.ifCond .ne 7, 3) := by decide +kernel
theorem d_X12_drops_84 : decode cX12_drops 84 = .ok (.iconst 1, 1) := by decide +kernel
theorem d_X12_drops_85 : decode cX12_drops 85 = .ok (.goto 4, 3) := by decide +kernel
theorem d_X12_drops_88 : decode cX12_drops 88 = .ok (.iconst 0, 1) := by decide +kernel
theorem d_X12_drops_89 : decode cX12_drops 89 = .ok (.istore 5, 2) := by decide +kernel
theorem d_X12_drops_91 : decode cX12_drops 91 = .ok (.iload 5, 2) := by decide +kernel
theorem d_X12_drops_93 : decode cX12_drops 93 = .ok (.ifCond .eq 19, 3) := by decide +kernel
theorem d_X12_drops_96 : decode cX12_drops 96 = .ok (.aload_n 0, 1) := by decide +kernel
theorem d_X12_drops_97 : decode cX12_drops 97 = .ok (.iload 4, 2) := by decide +kernel
theorem d_X12_drops_99 : decode cX12_drops 99 = .ok (.aload_n 0, 1) := by decide +kernel
theorem d_X12_drops_100 : decode cX12_drops 100 = .ok (.iload 4, 2) := by decide +kernel
theorem d_X12_drops_102 : decode cX12_drops 102 = .ok (.iconst 5, 1) := by decide +kernel
theorem d_X12_drops_103 : decode cX12_drops 103 = .ok (.invokevirtual 238, 3) := by decide +kernel
theorem d_X12_drops_106 : decode cX12_drops 106 = .ok (.invokevirtual 310, 3) := by decide +kernel
theorem d_X12_drops_109 : decode cX12_drops 109 = .ok (.goto 6, 3) := by decide +kernel
theorem d_X12_drops_112 : decode cX12_drops 112 = .ok (.iinc 4 1, 3) := by decide +kernel
theorem d_X12_drops_115 : decode cX12_drops 115 = .ok (.goto (-112), 3) := by decide +kernel
theorem d_X12_drops_118 : decode cX12_drops 118 = .ok (.return_, 1) := by decide +kernel
def f_X12_drops_115 (k3 : Int32 → Int32 → Int32 → Int32 → Mem → Option (Unit × Mem)) (v1 : Int32) (v2 : Int32) (v3 : Int32) (v4 : Int32) (S : Mem) : Option (Unit × Mem) := (k3 v1 v2 v3 v4 S)
set_option maxRecDepth 20000 in
theorem t_X12_drops_115 {X : MC} {Γ : GG} (C : CX X Γ cX12_drops 6 "TickPoolsModel" 4 108) (hr : X.2.2.2.2.2.2.2.2.1.sig.returnType = none) {k3 : Int32 → Int32 → Int32 → Int32 → Mem → Option (Unit × Mem)} {q : Unit × Mem} (hk3 : ∀ (v1 : Int32) (v2 : Int32) (v3 : Int32) (v4 : Int32) (S : Mem), k3 v1 v2 v3 v4 S = some q → ZZ X Γ 6 (QQ X Γ none q.2) S 3 [(0, aR 20), (1, aI v1), (2, aI v2), (3, aI v3), (4, aI v4)] []) (v1 : Int32) (v2 : Int32) (v3 : Int32) (v4 : Int32) (S : Mem) (hf : f_X12_drops_115 k3 v1 v2 v3 v4 S = some q) : ZZ X Γ 6 (QQ X Γ none q.2) S 115 [(0, aR 20), (1, aI v1), (2, aI v2), (3, aI v3), (4, aI v4)] [] := by
  unfold f_X12_drops_115 at hf
  refine z_goto (tgt := 3) C d_X12_drops_115 (by decide) ?_
  exact z_sub [0, 1, 2, 3, 4] rfl (hk3 _ _ _ _ _ hf)
def f_X12_drops_89 (k3 : Int32 → Int32 → Int32 → Int32 → Mem → Option (Unit × Mem)) (v1 : Int32) (v2 : Int32) (v3 : Int32) (v4 : Int32) (s0 : Int32) (S : Mem) : Option (Unit × Mem) := (if s0 = 0 then (f_X12_drops_115 k3 v1 v2 v3 (v4 + 1) S) else ((f_X12_ofStake v4 5 S).bind fun q103 => ((f_X12_takesOut v4 q103.1 q103.2).bind fun q106 => (f_X12_drops_115 k3 v1 v2 v3 v4 q106.2))))
set_option maxRecDepth 20000 in
theorem t_X12_drops_89 {X : MC} {Γ : GG} (C : CX X Γ cX12_drops 6 "TickPoolsModel" 4 108) (hr : X.2.2.2.2.2.2.2.2.1.sig.returnType = none) {k3 : Int32 → Int32 → Int32 → Int32 → Mem → Option (Unit × Mem)} {q : Unit × Mem} (hk3 : ∀ (v1 : Int32) (v2 : Int32) (v3 : Int32) (v4 : Int32) (S : Mem), k3 v1 v2 v3 v4 S = some q → ZZ X Γ 6 (QQ X Γ none q.2) S 3 [(0, aR 20), (1, aI v1), (2, aI v2), (3, aI v3), (4, aI v4)] []) (v1 : Int32) (v2 : Int32) (v3 : Int32) (v4 : Int32) (s0 : Int32) (S : Mem) (hf : f_X12_drops_89 k3 v1 v2 v3 v4 s0 S = some q) : ZZ X Γ 6 (QQ X Γ none q.2) S 89 [(0, aR 20), (1, aI v1), (2, aI v2), (3, aI v3), (4, aI v4)] [aI s0] := by
  unfold f_X12_drops_89 at hf
  refine z_istore (lv' := [(5, aI s0), (0, aR 20), (1, aI v1), (2, aI v2), (3, aI v3), (4, aI v4)]) C d_X12_drops_89 (by decide) rfl ?_
  refine z_iload (j := 0) C d_X12_drops_91 rfl ?_
  refine z_if_eq (tgt := 112) C d_X12_drops_93 (by decide) hf (fun c93 hf => ?_) (fun c93 hf => ?_)
  · refine z_iinc (j := 5) (v := (v4 + 1)) (lv' := [(4, aI (v4 + 1)), (5, aI s0), (0, aR 20), (1, aI v1), (2, aI v2), (3, aI v3)]) C d_X12_drops_112 rfl rfl (by decide) rfl ?_
    exact z_sub [2, 3, 4, 5, 0] rfl (t_X12_drops_115 C hr hk3 _ _ _ _ _ hf)
  · refine z_aload_n (j := 1) C d_X12_drops_96 rfl ?_
    refine z_iload (j := 5) C d_X12_drops_97 rfl ?_
    refine z_aload_n (j := 1) C d_X12_drops_99 rfl ?_
    refine z_iload (j := 5) C d_X12_drops_100 rfl ?_
    refine z_iconst (v := 5) C d_X12_drops_102 (by decide) ?_
    obtain ⟨q103, hF, hf⟩ := bd hf
    refine z_callV1 (rest := [aI v4, aR 20]) C [aI v4, aI 5] rfl (by decide) rfl rfl k_X12_ofStake tw_1490 ⟨by decide, by decide⟩ (Nat.le_of_ble_eq_true rfl) d_X12_drops_103 (c_X12_ofStake C.inj hF) rfl ?_
    obtain ⟨q106, hF, hf⟩ := bd hf
    refine z_callV0 (rest := []) C [aI v4, aJ q103.1] rfl (by decide) rfl rfl k_X12_takesOut tw_1558 ⟨by decide, by decide⟩ (Nat.le_of_ble_eq_true rfl) d_X12_drops_106 (c_X12_takesOut C.inj hF) rfl ?_
    refine z_goto (tgt := 115) C d_X12_drops_109 (by decide) ?_
    exact z_sub [1, 2, 3, 4, 5] rfl (t_X12_drops_115 C hr hk3 _ _ _ _ _ hf)
def f_X12_drops_84 (k3 : Int32 → Int32 → Int32 → Int32 → Mem → Option (Unit × Mem)) (v1 : Int32) (v2 : Int32) (v3 : Int32) (v4 : Int32) (S : Mem) : Option (Unit × Mem) := (f_X12_drops_89 k3 v1 v2 v3 v4 1 S)
set_option maxRecDepth 20000 in
theorem t_X12_drops_84 {X : MC} {Γ : GG} (C : CX X Γ cX12_drops 6 "TickPoolsModel" 4 108) (hr : X.2.2.2.2.2.2.2.2.1.sig.returnType = none) {k3 : Int32 → Int32 → Int32 → Int32 → Mem → Option (Unit × Mem)} {q : Unit × Mem} (hk3 : ∀ (v1 : Int32) (v2 : Int32) (v3 : Int32) (v4 : Int32) (S : Mem), k3 v1 v2 v3 v4 S = some q → ZZ X Γ 6 (QQ X Γ none q.2) S 3 [(0, aR 20), (1, aI v1), (2, aI v2), (3, aI v3), (4, aI v4)] []) (v1 : Int32) (v2 : Int32) (v3 : Int32) (v4 : Int32) (S : Mem) (hf : f_X12_drops_84 k3 v1 v2 v3 v4 S = some q) : ZZ X Γ 6 (QQ X Γ none q.2) S 84 [(0, aR 20), (1, aI v1), (2, aI v2), (3, aI v3), (4, aI v4)] [] := by
  unfold f_X12_drops_84 at hf
  refine z_iconst (v := 1) C d_X12_drops_84 (by decide) ?_
  refine z_goto (tgt := 89) C d_X12_drops_85 (by decide) ?_
  exact z_sub [0, 1, 2, 3, 4] rfl (t_X12_drops_89 C hr hk3 _ _ _ _ _ _ hf)
def f_X12_drops_88 (k3 : Int32 → Int32 → Int32 → Int32 → Mem → Option (Unit × Mem)) (v1 : Int32) (v2 : Int32) (v3 : Int32) (v4 : Int32) (S : Mem) : Option (Unit × Mem) := (f_X12_drops_89 k3 v1 v2 v3 v4 0 S)
set_option maxRecDepth 20000 in
theorem t_X12_drops_88 {X : MC} {Γ : GG} (C : CX X Γ cX12_drops 6 "TickPoolsModel" 4 108) (hr : X.2.2.2.2.2.2.2.2.1.sig.returnType = none) {k3 : Int32 → Int32 → Int32 → Int32 → Mem → Option (Unit × Mem)} {q : Unit × Mem} (hk3 : ∀ (v1 : Int32) (v2 : Int32) (v3 : Int32) (v4 : Int32) (S : Mem), k3 v1 v2 v3 v4 S = some q → ZZ X Γ 6 (QQ X Γ none q.2) S 3 [(0, aR 20), (1, aI v1), (2, aI v2), (3, aI v3), (4, aI v4)] []) (v1 : Int32) (v2 : Int32) (v3 : Int32) (v4 : Int32) (S : Mem) (hf : f_X12_drops_88 k3 v1 v2 v3 v4 S = some q) : ZZ X Γ 6 (QQ X Γ none q.2) S 88 [(0, aR 20), (1, aI v1), (2, aI v2), (3, aI v3), (4, aI v4)] [] := by
  unfold f_X12_drops_88 at hf
  refine z_iconst (v := 0) C d_X12_drops_88 (by decide) ?_
  exact z_sub [0, 1, 2, 3, 4] rfl (t_X12_drops_89 C hr hk3 _ _ _ _ _ _ hf)
def f_X12_drops_3B (k3 : Int32 → Int32 → Int32 → Int32 → Mem → Option (Unit × Mem)) (v1 : Int32) (v2 : Int32) (v3 : Int32) (v4 : Int32) (S : Mem) : Option (Unit × Mem) := ((f_X12_stakes S).bind fun q6 => (if q6.1 ≤ v4 then (some ((), q6.2)) else ((f_X12_ofStake v4 1 q6.2).bind fun q16 => (if q16.1 = (v1.toInt64) then (if v2 = 0 then ((f_X12_ofStake v4 4 q16.2).bind fun q33 => (if q33.1 = 2 then ((f_X12_ofStake v4 2 q33.2).bind fun q47 => (if q47.1 = (v3.toInt64) then (f_X12_drops_84 k3 v1 v2 v3 v4 q47.2) else (f_X12_drops_88 k3 v1 v2 v3 v4 q47.2))) else (f_X12_drops_88 k3 v1 v2 v3 v4 q33.2))) else ((f_X12_ofStake v4 4 q16.2).bind fun q63 => (if q63.1 = 1 then ((f_X12_ofStake v4 3 q63.2).bind fun q75 => (if q75.1 = (v3.toInt64) then (f_X12_drops_84 k3 v1 v2 v3 v4 q75.2) else (f_X12_drops_88 k3 v1 v2 v3 v4 q75.2))) else (f_X12_drops_88 k3 v1 v2 v3 v4 q63.2)))) else (f_X12_drops_88 k3 v1 v2 v3 v4 q16.2)))))
set_option maxRecDepth 20000 in
theorem t_X12_drops_3B {X : MC} {Γ : GG} (C : CX X Γ cX12_drops 6 "TickPoolsModel" 4 108) (hr : X.2.2.2.2.2.2.2.2.1.sig.returnType = none) {k3 : Int32 → Int32 → Int32 → Int32 → Mem → Option (Unit × Mem)} {q : Unit × Mem} (hk3 : ∀ (v1 : Int32) (v2 : Int32) (v3 : Int32) (v4 : Int32) (S : Mem), k3 v1 v2 v3 v4 S = some q → ZZ X Γ 6 (QQ X Γ none q.2) S 3 [(0, aR 20), (1, aI v1), (2, aI v2), (3, aI v3), (4, aI v4)] []) (v1 : Int32) (v2 : Int32) (v3 : Int32) (v4 : Int32) (S : Mem) (hf : f_X12_drops_3B k3 v1 v2 v3 v4 S = some q) : ZZ X Γ 6 (QQ X Γ none q.2) S 3 [(0, aR 20), (1, aI v1), (2, aI v2), (3, aI v3), (4, aI v4)] [] := by
  unfold f_X12_drops_3B at hf
  refine z_iload (j := 4) C d_X12_drops_3 rfl ?_
  refine z_aload_n (j := 0) C d_X12_drops_5 rfl ?_
  obtain ⟨q6, hF, hf⟩ := bd hf
  refine z_callV1 (rest := [aI v4]) C [] rfl (by decide) rfl rfl k_X12_stakes tw_1486 ⟨by decide, by decide⟩ (Nat.le_of_ble_eq_true rfl) d_X12_drops_6 (c_X12_stakes C.inj hF) rfl ?_
  refine z_icmp_ge (tgt := 118) C d_X12_drops_9 (by decide) hf (fun c9 hf => ?_) (fun c9 hf => ?_)
  · exact r_v C hr d_X12_drops_118 hf
  · refine z_aload_n (j := 0) C d_X12_drops_12 rfl ?_
    refine z_iload (j := 4) C d_X12_drops_13 rfl ?_
    refine z_iconst (v := 1) C d_X12_drops_15 (by decide) ?_
    obtain ⟨q16, hF, hf⟩ := bd hf
    refine z_callV1 (rest := []) C [aI v4, aI 1] rfl (by decide) rfl rfl k_X12_ofStake tw_1490 ⟨by decide, by decide⟩ (Nat.le_of_ble_eq_true rfl) d_X12_drops_16 (c_X12_ofStake C.inj hF) rfl ?_
    refine z_iload_n (j := 1) C d_X12_drops_19 rfl ?_
    refine z_i2l C d_X12_drops_20 ?_
    refine z_lne (tgt := 88) C d_X12_drops_21 d_X12_drops_22 (by decide) hf (fun c21 hf => ?_) (fun c21 hf => ?_)
    · exact z_sub [0, 1, 2, 3, 4] rfl (t_X12_drops_88 C hr hk3 _ _ _ _ _ hf)
    · refine z_iload_n (j := 2) C d_X12_drops_25 rfl ?_
      refine z_if_ne (tgt := 59) C d_X12_drops_26 (by decide) hf (fun c26 hf => ?_) (fun c26 hf => ?_)
      · refine z_aload_n (j := 0) C d_X12_drops_59 rfl ?_
        refine z_iload (j := 4) C d_X12_drops_60 rfl ?_
        refine z_iconst (v := 4) C d_X12_drops_62 (by decide) ?_
        obtain ⟨q63, hF, hf⟩ := bd hf
        refine z_callV1 (rest := []) C [aI v4, aI 4] rfl (by decide) rfl rfl k_X12_ofStake tw_1490 ⟨by decide, by decide⟩ (Nat.le_of_ble_eq_true rfl) d_X12_drops_63 (c_X12_ofStake C.inj hF) rfl ?_
        refine z_lconst (v := 1) C d_X12_drops_66 (by decide) ?_
        refine z_lne (tgt := 88) C d_X12_drops_67 d_X12_drops_68 (by decide) hf (fun c67 hf => ?_) (fun c67 hf => ?_)
        · exact z_sub [0, 1, 2, 3, 4] rfl (t_X12_drops_88 C hr hk3 _ _ _ _ _ hf)
        · refine z_aload_n (j := 0) C d_X12_drops_71 rfl ?_
          refine z_iload (j := 4) C d_X12_drops_72 rfl ?_
          refine z_iconst (v := 3) C d_X12_drops_74 (by decide) ?_
          obtain ⟨q75, hF, hf⟩ := bd hf
          refine z_callV1 (rest := []) C [aI v4, aI 3] rfl (by decide) rfl rfl k_X12_ofStake tw_1490 ⟨by decide, by decide⟩ (Nat.le_of_ble_eq_true rfl) d_X12_drops_75 (c_X12_ofStake C.inj hF) rfl ?_
          refine z_iload_n (j := 3) C d_X12_drops_78 rfl ?_
          refine z_i2l C d_X12_drops_79 ?_
          refine z_lne (tgt := 88) C d_X12_drops_80 d_X12_drops_81 (by decide) hf (fun c80 hf => ?_) (fun c80 hf => ?_)
          · exact z_sub [0, 1, 2, 3, 4] rfl (t_X12_drops_88 C hr hk3 _ _ _ _ _ hf)
          · exact z_sub [0, 1, 2, 3, 4] rfl (t_X12_drops_84 C hr hk3 _ _ _ _ _ hf)
      · refine z_aload_n (j := 0) C d_X12_drops_29 rfl ?_
        refine z_iload (j := 4) C d_X12_drops_30 rfl ?_
        refine z_iconst (v := 4) C d_X12_drops_32 (by decide) ?_
        obtain ⟨q33, hF, hf⟩ := bd hf
        refine z_callV1 (rest := []) C [aI v4, aI 4] rfl (by decide) rfl rfl k_X12_ofStake tw_1490 ⟨by decide, by decide⟩ (Nat.le_of_ble_eq_true rfl) d_X12_drops_33 (c_X12_ofStake C.inj hF) rfl ?_
        refine z_ldc2 (v := 2) C tw_1480 d_X12_drops_36 ?_
        refine z_lne (tgt := 88) C d_X12_drops_39 d_X12_drops_40 (by decide) hf (fun c39 hf => ?_) (fun c39 hf => ?_)
        · exact z_sub [0, 1, 2, 3, 4] rfl (t_X12_drops_88 C hr hk3 _ _ _ _ _ hf)
        · refine z_aload_n (j := 0) C d_X12_drops_43 rfl ?_
          refine z_iload (j := 4) C d_X12_drops_44 rfl ?_
          refine z_iconst (v := 2) C d_X12_drops_46 (by decide) ?_
          obtain ⟨q47, hF, hf⟩ := bd hf
          refine z_callV1 (rest := []) C [aI v4, aI 2] rfl (by decide) rfl rfl k_X12_ofStake tw_1490 ⟨by decide, by decide⟩ (Nat.le_of_ble_eq_true rfl) d_X12_drops_47 (c_X12_ofStake C.inj hF) rfl ?_
          refine z_iload_n (j := 3) C d_X12_drops_50 rfl ?_
          refine z_i2l C d_X12_drops_51 ?_
          refine z_lne (tgt := 88) C d_X12_drops_52 d_X12_drops_53 (by decide) hf (fun c52 hf => ?_) (fun c52 hf => ?_)
          · exact z_sub [0, 1, 2, 3, 4] rfl (t_X12_drops_88 C hr hk3 _ _ _ _ _ hf)
          · refine z_goto (tgt := 84) C d_X12_drops_56 (by decide) ?_
            exact z_sub [0, 1, 2, 3, 4] rfl (t_X12_drops_84 C hr hk3 _ _ _ _ _ hf)
def f_X12_drops_3 : Nat → Int32 → Int32 → Int32 → Int32 → Mem → Option (Unit × Mem)
  | 0 => fun _ _ _ _ _ => none
  | n + 1 => f_X12_drops_3B (f_X12_drops_3 n)
theorem t_X12_drops_3 {X : MC} {Γ : GG} (C : CX X Γ cX12_drops 6 "TickPoolsModel" 4 108) (hr : X.2.2.2.2.2.2.2.2.1.sig.returnType = none) {q : Unit × Mem} : ∀ (n : Nat) (v1 : Int32) (v2 : Int32) (v3 : Int32) (v4 : Int32) (S : Mem) (hf : f_X12_drops_3 n v1 v2 v3 v4 S = some q), ZZ X Γ 6 (QQ X Γ none q.2) S 3 [(0, aR 20), (1, aI v1), (2, aI v2), (3, aI v3), (4, aI v4)] []
  | 0, _, _, _, _, _, hf => nomatch (show (none : Option (Unit × Mem)) = some q from hf)
  | n + 1, v1, v2, v3, v4, S, hf => t_X12_drops_3B C hr (t_X12_drops_3 C hr n) v1 v2 v3 v4 S hf
/-- TickPoolsModel.drops(III)V -/
def f_X12_drops (p1 : Int32) (p2 : Int32) (p3 : Int32) (S : Mem) : Option (Unit × Mem) := (f_X12_drops_3  100000 p1 p2 p3 0 S)
set_option maxRecDepth 20000 in
theorem c_X12_drops {l : Launch} {Γ : GG} (hI : Inj Γ) {p1 : Int32} {p2 : Int32} {p3 : Int32} {S : Mem} {q : Unit × Mem} (hf : f_X12_drops p1 p2 p3 S = some q) : MM l Γ yX12_drops cX12_drops 6 (none) 4 108 [aR 20, aI p1, aI p2, aI p3] S none q.2 := by
  refine met_of hI "TickPoolsModel" rfl (by decide +kernel) (Nat.le_of_ble_eq_true rfl) (fun X hX C hr => ?_)
  unfold f_X12_drops at hf
  show ZZ X Γ 6 _ S 0 [(0, aR 20), (1, aI p1), (2, aI p2), (3, aI p3)] []
  refine z_iconst (v := 0) C d_X12_drops_0 (by decide) ?_
  refine z_istore (lv' := [(4, aI 0), (0, aR 20), (1, aI p1), (2, aI p2), (3, aI p3)]) C d_X12_drops_1 (by decide) rfl ?_
  exact z_sub [1, 2, 3, 4, 0] rfl (t_X12_drops_3 C hr  100000 _ _ _ _ _ hf)
theorem d_X12_steps_0 : decode cX12_steps 0 = .ok (.aload_n 0, 1) := by decide +kernel
theorem d_X12_steps_1 : decode cX12_steps 1 = .ok (.iload_n 1, 1) := by decide +kernel
theorem d_X12_steps_2 : decode cX12_steps 2 = .ok (.iload_n 2, 1) := by decide +kernel
theorem d_X12_steps_3 : decode cX12_steps 3 = .ok (.iload_n 3, 1) := by decide +kernel
theorem d_X12_steps_4 : decode cX12_steps 4 = .ok (.invokevirtual 322, 3) := by decide +kernel
theorem d_X12_steps_7 : decode cX12_steps 7 = .ok (.istore 5, 2) := by decide +kernel
theorem d_X12_steps_9 : decode cX12_steps 9 = .ok (.aload_n 0, 1) := by decide +kernel
theorem d_X12_steps_10 : decode cX12_steps 10 = .ok (.iload_n 1, 1) := by decide +kernel
theorem d_X12_steps_11 : decode cX12_steps 11 = .ok (.aload_n 0, 1) := by decide +kernel
theorem d_X12_steps_12 : decode cX12_steps 12 = .ok (.iload_n 1, 1) := by decide +kernel
theorem d_X12_steps_13 : decode cX12_steps 13 = .ok (.invokevirtual 228, 3) := by decide +kernel
theorem d_X12_steps_16 : decode cX12_steps 16 = .ok (.invokevirtual 316, 3) := by decide +kernel
theorem d_X12_steps_19 : decode cX12_steps 19 = .ok (.lstore 6, 2) := by decide +kernel
theorem d_X12_steps_21 : decode cX12_steps 21 = .ok (.aload_n 0, 1) := by decide +kernel
theorem d_X12_steps_22 : decode cX12_steps 22 = .ok (.iload_n 1, 1) := by decide +kernel
theorem d_X12_steps_23 : decode cX12_steps 23 = .ok (.iconst 0, 1) := by decide +kernel
theorem d_X12_steps_24 : decode cX12_steps 24 = .ok (.invokevirtual 116, 3) := by decide +kernel
theorem d_X12_steps_27 : decode cX12_steps 27 = .ok (.lstore 8, 2) := by decide +kernel
theorem d_X12_steps_29 : decode cX12_steps 29 = .ok (.iload 4, 2) := by decide +kernel
theorem d_X12_steps_31 : decode cX12_steps 31 = .ok (.ifCond .eq 10, 3) := by decide +kernel
theorem d_X12_steps_34 : decode cX12_steps 34 = .ok (.aload_n 0, 1) := by decide +kernel
theorem d_X12_steps_35 : decode cX12_steps 35 = .ok (.getfield 326, 3) := by decide +kernel
theorem d_X12_steps_38 : decode cX12_steps 38 = .ok (.goto 22, 3) := by decide +kernel
theorem d_X12_steps_41 : decode cX12_steps 41 = .ok (.aload_n 0, 1) := by decide +kernel
theorem d_X12_steps_42 : decode cX12_steps 42 = .ok (.getfield 326, 3) := by decide +kernel
theorem d_X12_steps_45 : decode cX12_steps 45 = .ok (.sipush 1000, 3) := by decide +kernel
theorem d_X12_steps_48 : decode cX12_steps 48 = .ok (.aload_n 0, 1) := by decide +kernel
theorem d_X12_steps_49 : decode cX12_steps 49 = .ok (.iload_n 1, 1) := by decide +kernel
theorem d_X12_steps_50 : decode cX12_steps 50 = .ok (.invokevirtual 319, 3) := by decide +kernel
theorem d_X12_steps_53 : decode cX12_steps 53 = .ok (.isub, 1) := by decide +kernel
theorem d_X12_steps_54 : decode cX12_steps 54 = .ok (.i2l, 1) := by decide +kernel
theorem d_X12_steps_55 : decode cX12_steps 55 = .ok (.lmul, 1) := by decide +kernel
theorem d_X12_steps_56 : decode cX12_steps 56 = .ok (.ldc2_w 329, 3) := by decide +kernel
theorem d_X12_steps_59 : decode cX12_steps 59 = .ok (.ldiv, 1) := by decide +kernel
theorem d_X12_steps_60 : decode cX12_steps 60 = .ok (.lstore 10, 2) := by decide +kernel
theorem d_X12_steps_62 : decode cX12_steps 62 = .ok (.iload 4, 2) := by decide +kernel
theorem d_X12_steps_64 : decode cX12_steps 64 = .ok (.ifCond .ne 14, 3) := by decide +kernel
theorem d_X12_steps_67 : decode cX12_steps 67 = .ok (.aload_n 0, 1) := by decide +kernel
theorem d_X12_steps_68 : decode cX12_steps 68 = .ok (.iload_n 1, 1) := by decide +kernel
theorem d_X12_steps_69 : decode cX12_steps 69 = .ok (.iload_n 2, 1) := by decide +kernel
theorem d_X12_steps_70 : decode cX12_steps 70 = .ok (.iload 5, 2) := by decide +kernel
theorem d_X12_steps_72 : decode cX12_steps 72 = .ok (.invokevirtual 331, 3) := by decide +kernel
theorem d_X12_steps_75 : decode cX12_steps 75 = .ok (.goto 40, 3) := by decide +kernel
theorem d_X12_steps_78 : decode cX12_steps 78 = .ok (.iload_n 2, 1) := by decide +kernel
theorem d_X12_steps_79 : decode cX12_steps 79 = .ok (.ifCond .ne 21, 3) := by decide +kernel
theorem d_X12_steps_82 : decode cX12_steps 82 = .ok (.lload 6, 2) := by decide +kernel
theorem d_X12_steps_84 : decode cX12_steps 84 = .ok (.aload_n 0, 1) := by decide +kernel
theorem d_X12_steps_85 : decode cX12_steps 85 = .ok (.getfield 7, 3) := by decide +kernel
theorem d_X12_steps_88 : decode cX12_steps 88 = .ok (.iload 5, 2) := by decide +kernel
theorem d_X12_steps_90 : decode cX12_steps 90 = .ok (.laload, 1) := by decide +kernel
theorem d_X12_steps_91 : decode cX12_steps 91 = .ok (.lload 8, 2) := by decide +kernel
theorem d_X12_steps_93 : decode cX12_steps 93 = .ok (.iconst 0, 1) := by decide +kernel
theorem d_X12_steps_94 : decode cX12_steps 94 = .ok (.invokestatic 235, 3) := by decide +kernel
theorem d_X12_steps_97 : decode cX12_steps 97 = .ok (.goto 18, 3) := by decide +kernel
theorem d_X12_steps_100 : decode cX12_steps 100 = .ok (.lload 6, 2) := by decide +kernel
theorem d_X12_steps_102 : decode cX12_steps 102 = .ok (.lload 8, 2) := by decide +kernel
theorem d_X12_steps_104 : decode cX12_steps 104 = .ok (.aload_n 0, 1) := by decide +kernel
theorem d_X12_steps_105 : decode cX12_steps 105 = .ok (.getfield 7, 3) := by decide +kernel
theorem d_X12_steps_108 : decode cX12_steps 108 = .ok (.iload 5, 2) := by decide +kernel
theorem d_X12_steps_110 : decode cX12_steps 110 = .ok (.laload, 1) := by decide +kernel
theorem d_X12_steps_111 : decode cX12_steps 111 = .ok (.iconst 0, 1) := by decide +kernel
theorem d_X12_steps_112 : decode cX12_steps 112 = .ok (.invokestatic 231, 3) := by decide +kernel
theorem d_X12_steps_115 : decode cX12_steps 115 = .ok (.lstore 12, 2) := by decide +kernel
theorem d_X12_steps_117 : decode cX12_steps 117 = .ok (.lload 10, 2) := by decide +kernel
theorem d_X12_steps_119 : decode cX12_steps 119 = .ok (.lload 12, 2) := by decide +kernel
theorem d_X12_steps_121 : decode cX12_steps 121 = .ok (.lcmp, 1) := by decide +kernel
theorem d_X12_steps_122 : decode cX12_steps 122 = .ok (.ifCond .lt 7, 3) := by decide +kernel
theorem d_X12_steps_125 : decode cX12_steps 125 = .ok (.iconst 1, 1) := by decide +kernel
theorem d_X12_steps_126 : decode cX12_steps 126 = .ok (.goto 4, 3) := by decide +kernel
theorem d_X12_steps_129 : decode cX12_steps 129 = .ok (.iconst 0, 1) := by decide +kernel
theorem d_X12_steps_130 : decode cX12_steps 130 = .ok (.istore 14, 2) := by decide +kernel
theorem d_X12_steps_132 : decode cX12_steps 132 = .ok (.iload 14, 2) := by decide +kernel
theorem d_X12_steps_134 : decode cX12_steps 134 = .ok (.ifCond .eq 13, 3) := by decide +kernel
theorem d_X12_steps_137 : decode cX12_steps 137 = .ok (.aload_n 0, 1) := by decide +kernel
theorem d_X12_steps_138 : decode cX12_steps 138 = .ok (.getfield 7, 3) := by decide +kernel
theorem d_X12_steps_141 : decode cX12_steps 141 = .ok (.iload 5, 2) := by decide +kernel
theorem d_X12_steps_143 : decode cX12_steps 143 = .ok (.laload, 1) := by decide +kernel
theorem d_X12_steps_144 : decode cX12_steps 144 = .ok (.goto 27, 3) := by decide +kernel
theorem d_X12_steps_147 : decode cX12_steps 147 = .ok (.iload 4, 2) := by decide +kernel
theorem d_X12_steps_149 : decode cX12_steps 149 = .ok (.ifCond .eq 14, 3) := by decide +kernel
theorem d_X12_steps_152 : decode cX12_steps 152 = .ok (.aload_n 0, 1) := by decide +kernel
theorem d_X12_steps_153 : decode cX12_steps 153 = .ok (.iload_n 1, 1) := by decide +kernel
theorem d_X12_steps_154 : decode cX12_steps 154 = .ok (.iload_n 2, 1) := by decide +kernel
theorem d_X12_steps_155 : decode cX12_steps 155 = .ok (.lload 10, 2) := by decide +kernel
theorem d_X12_steps_157 : decode cX12_steps 157 = .ok (.invokevirtual 335, 3) := by decide +kernel
theorem d_X12_steps_160 : decode cX12_steps 160 = .ok (.goto 11, 3) := by decide +kernel
theorem d_X12_steps_163 : decode cX12_steps 163 = .ok (.aload_n 0, 1) := by decide +kernel
theorem d_X12_steps_164 : decode cX12_steps 164 = .ok (.iload_n 1, 1) := by decide +kernel
theorem d_X12_steps_165 : decode cX12_steps 165 = .ok (.iload_n 2, 1) := by decide +kernel
theorem d_X12_steps_166 : decode cX12_steps 166 = .ok (.lload 10, 2) := by decide +kernel
theorem d_X12_steps_168 : decode cX12_steps 168 = .ok (.invokevirtual 339, 3) := by decide +kernel
theorem d_X12_steps_171 : decode cX12_steps 171 = .ok (.lstore 15, 2) := by decide +kernel
theorem d_X12_steps_173 : decode cX12_steps 173 = .ok (.lload 15, 2) := by decide +kernel
theorem d_X12_steps_175 : decode cX12_steps 175 = .ok (.lload 8, 2) := by decide +kernel
theorem d_X12_steps_177 : decode cX12_steps 177 = .ok (.lcmp, 1) := by decide +kernel
theorem d_X12_steps_178 : decode cX12_steps 178 = .ok (.ifCond .ge 8, 3) := by decide +kernel
theorem d_X12_steps_181 : decode cX12_steps 181 = .ok (.lload 15, 2) := by decide +kernel
theorem d_X12_steps_183 : decode cX12_steps 183 = .ok (.goto 5, 3) := by decide +kernel
theorem d_X12_steps_186 : decode cX12_steps 186 = .ok (.lload 8, 2) := by decide +kernel
theorem d_X12_steps_188 : decode cX12_steps 188 = .ok (.lstore 17, 2) := by decide +kernel
theorem d_X12_steps_190 : decode cX12_steps 190 = .ok (.lload 15, 2) := by decide +kernel
theorem d_X12_steps_192 : decode cX12_steps 192 = .ok (.lload 8, 2) := by decide +kernel
theorem d_X12_steps_194 : decode cX12_steps 194 = .ok (.lcmp, 1) := by decide +kernel
theorem d_X12_steps_195 : decode cX12_steps 195 = .ok (.ifCond .ge 8, 3) := by decide +kernel
theorem d_X12_steps_198 : decode cX12_steps 198 = .ok (.lload 8, 2) := by decide +kernel
theorem d_X12_steps_200 : decode cX12_steps 200 = .ok (.goto 5, 3) := by decide +kernel
theorem d_X12_steps_203 : decode cX12_steps 203 = .ok (.lload 15, 2) := by decide +kernel
theorem d_X12_steps_205 : decode cX12_steps 205 = .ok (.lstore 19, 2) := by decide +kernel
theorem d_X12_steps_207 : decode cX12_steps 207 = .ok (.iload 4, 2) := by decide +kernel
theorem d_X12_steps_209 : decode cX12_steps 209 = .ok (.ifCond .eq 18, 3) := by decide +kernel
theorem d_X12_steps_212 : decode cX12_steps 212 = .ok (.iload 14, 2) := by decide +kernel
theorem d_X12_steps_214 : decode cX12_steps 214 = .ok (.ifCond .eq 8, 3) := by decide +kernel
theorem d_X12_steps_217 : decode cX12_steps 217 = .ok (.lload 12, 2) := by decide +kernel
theorem d_X12_steps_219 : decode cX12_steps 219 = .ok (.goto 35, 3) := by decide +kernel
theorem d_X12_steps_222 : decode cX12_steps 222 = .ok (.lload 10, 2) := by decide +kernel
theorem d_X12_steps_224 : decode cX12_steps 224 = .ok (.goto 30, 3) := by decide +kernel
theorem d_X12_steps_227 : decode cX12_steps 227 = .ok (.iload_n 2, 1) := by decide +kernel
theorem d_X12_steps_228 : decode cX12_steps 228 = .ok (.ifCond .ne 16, 3) := by decide +kernel
theorem d_X12_steps_231 : decode cX12_steps 231 = .ok (.lload 6, 2) := by decide +kernel
theorem d_X12_steps_233 : decode cX12_steps 233 = .ok (.lload 17, 2) := by decide +kernel
theorem d_X12_steps_235 : decode cX12_steps 235 = .ok (.lload 19, 2) := by decide +kernel
theorem d_X12_steps_237 : decode cX12_steps 237 = .ok (.iconst 0, 1) := by decide +kernel
theorem d_X12_steps_238 : decode cX12_steps 238 = .ok (.invokestatic 235, 3) := by decide +kernel
theorem d_X12_steps_241 : decode cX12_steps 241 = .ok (.goto 13, 3) := by decide +kernel
theorem d_X12_steps_244 : decode cX12_steps 244 = .ok (.lload 6, 2) := by decide +kernel
theorem d_X12_steps_246 : decode cX12_steps 246 = .ok (.lload 17, 2) := by decide +kernel
theorem d_X12_steps_248 : decode cX12_steps 248 = .ok (.lload 19, 2) := by decide +kernel
theorem d_X12_steps_250 : decode cX12_steps 250 = .ok (.iconst 0, 1) := by decide +kernel
theorem d_X12_steps_251 : decode cX12_steps 251 = .ok (.invokestatic 231, 3) := by decide +kernel
theorem d_X12_steps_254 : decode cX12_steps 254 = .ok (.lstore 21, 2) := by decide +kernel
theorem d_X12_steps_256 : decode cX12_steps 256 = .ok (.iload 4, 2) := by decide +kernel
theorem d_X12_steps_258 : decode cX12_steps 258 = .ok (.ifCond .ne 18, 3) := by decide +kernel
theorem d_X12_steps_261 : decode cX12_steps 261 = .ok (.iload 14, 2) := by decide +kernel
theorem d_X12_steps_263 : decode cX12_steps 263 = .ok (.ifCond .eq 8, 3) := by decide +kernel
theorem d_X12_steps_266 : decode cX12_steps 266 = .ok (.lload 12, 2) := by decide +kernel
theorem d_X12_steps_268 : decode cX12_steps 268 = .ok (.goto 35, 3) := by decide +kernel
theorem d_X12_steps_271 : decode cX12_steps 271 = .ok (.lload 10, 2) := by decide +kernel
theorem d_X12_steps_273 : decode cX12_steps 273 = .ok (.goto 30, 3) := by decide +kernel
theorem d_X12_steps_276 : decode cX12_steps 276 = .ok (.iload_n 2, 1) := by decide +kernel
theorem d_X12_steps_277 : decode cX12_steps 277 = .ok (.ifCond .ne 16, 3) := by decide +kernel
theorem d_X12_steps_280 : decode cX12_steps 280 = .ok (.lload 6, 2) := by decide +kernel
theorem d_X12_steps_282 : decode cX12_steps 282 = .ok (.lload 17, 2) := by decide +kernel
theorem d_X12_steps_284 : decode cX12_steps 284 = .ok (.lload 19, 2) := by decide +kernel
theorem d_X12_steps_286 : decode cX12_steps 286 = .ok (.iconst 1, 1) := by decide +kernel
theorem d_X12_steps_287 : decode cX12_steps 287 = .ok (.invokestatic 231, 3) := by decide +kernel
theorem d_X12_steps_290 : decode cX12_steps 290 = .ok (.goto 13, 3) := by decide +kernel
theorem d_X12_steps_293 : decode cX12_steps 293 = .ok (.lload 6, 2) := by decide +kernel
theorem d_X12_steps_295 : decode cX12_steps 295 = .ok (.lload 17, 2) := by decide +kernel
theorem d_X12_steps_297 : decode cX12_steps 297 = .ok (.lload 19, 2) := by decide +kernel
theorem d_X12_steps_299 : decode cX12_steps 299 = .ok (.iconst 1, 1) := by decide +kernel
theorem d_X12_steps_300 : decode cX12_steps 300 = .ok (.invokestatic 235, 3) := by decide +kernel
theorem d_X12_steps_303 : decode cX12_steps 303 = .ok (.lstore 23, 2) := by decide +kernel
theorem d_X12_steps_305 : decode cX12_steps 305 = .ok (.iload 4, 2) := by decide +kernel
theorem d_X12_steps_307 : decode cX12_steps 307 = .ok (.ifCond .ne 8, 3) := by decide +kernel
theorem d_X12_steps_310 : decode cX12_steps 310 = .ok (.iload 14, 2) := by decide +kernel
theorem d_X12_steps_312 : decode cX12_steps 312 = .ok (.ifCond .eq 13, 3) := by decide +kernel
theorem d_X12_steps_315 : decode cX12_steps 315 = .ok (.aload_n 0, 1) := by decide +kernel
theorem d_X12_steps_316 : decode cX12_steps 316 = .ok (.iload_n 1, 1) := by decide +kernel
theorem d_X12_steps_317 : decode cX12_steps 317 = .ok (.lload 23, 2) := by decide +kernel
theorem d_X12_steps_319 : decode cX12_steps 319 = .ok (.invokevirtual 342, 3) := by decide +kernel
theorem d_X12_steps_322 : decode cX12_steps 322 = .ok (.goto 10, 3) := by decide +kernel
theorem d_X12_steps_325 : decode cX12_steps 325 = .ok (.aload_n 0, 1) := by decide +kernel
theorem d_X12_steps_326 : decode cX12_steps 326 = .ok (.getfield 326, 3) := by decide +kernel
theorem d_X12_steps_329 : decode cX12_steps 329 = .ok (.lload 10, 2) := by decide +kernel
theorem d_X12_steps_331 : decode cX12_steps 331 = .ok (.lsub, 1) := by decide +kernel
theorem d_X12_steps_332 : decode cX12_steps 332 = .ok (.lstore 25, 2) := by decide +kernel
theorem d_X12_steps_334 : decode cX12_steps 334 = .ok (.aload_n 0, 1) := by decide +kernel
theorem d_X12_steps_335 : decode cX12_steps 335 = .ok (.iload_n 1, 1) := by decide +kernel
theorem d_X12_steps_336 : decode cX12_steps 336 = .ok (.iload_n 2, 1) := by decide +kernel
theorem d_X12_steps_337 : decode cX12_steps 337 = .ok (.lload 25, 2) := by decide +kernel
theorem d_X12_steps_339 : decode cX12_steps 339 = .ok (.invokevirtual 346, 3) := by decide +kernel
theorem d_X12_steps_342 : decode cX12_steps 342 = .ok (.aload_n 0, 1) := by decide +kernel
theorem d_X12_steps_343 : decode cX12_steps 343 = .ok (.iload_n 1, 1) := by decide +kernel
theorem d_X12_steps_344 : decode cX12_steps 344 = .ok (.iconst 2, 1) := by decide +kernel
theorem d_X12_steps_345 : decode cX12_steps 345 = .ok (.iload_n 2, 1) := by decide +kernel
theorem d_X12_steps_346 : decode cX12_steps 346 = .ok (.iadd, 1) := by decide +kernel
theorem d_X12_steps_347 : decode cX12_steps 347 = .ok (.lload 23, 2) := by decide +kernel
theorem d_X12_steps_349 : decode cX12_steps 349 = .ok (.lload 25, 2) := by decide +kernel
theorem d_X12_steps_351 : decode cX12_steps 351 = .ok (.ladd, 1) := by decide +kernel
theorem d_X12_steps_352 : decode cX12_steps 352 = .ok (.invokevirtual 253, 3) := by decide +kernel
theorem d_X12_steps_355 : decode cX12_steps 355 = .ok (.aload_n 0, 1) := by decide +kernel
theorem d_X12_steps_356 : decode cX12_steps 356 = .ok (.iload_n 1, 1) := by decide +kernel
theorem d_X12_steps_357 : decode cX12_steps 357 = .ok (.iconst 3, 1) := by decide +kernel
theorem d_X12_steps_358 : decode cX12_steps 358 = .ok (.iload_n 2, 1) := by decide +kernel
theorem d_X12_steps_359 : decode cX12_steps 359 = .ok (.isub, 1) := by decide +kernel
theorem d_X12_steps_360 : decode cX12_steps 360 = .ok (.lload 21, 2) := by decide +kernel
theorem d_X12_steps_362 : decode cX12_steps 362 = .ok (.lneg, 1) := by decide +kernel
theorem d_X12_steps_363 : decode cX12_steps 363 = .ok (.invokevirtual 253, 3) := by decide +kernel
theorem d_X12_steps_366 : decode cX12_steps 366 = .ok (.aload_n 0, 1) := by decide +kernel
theorem d_X12_steps_367 : decode cX12_steps 367 = .ok (.dup, 1) := by decide +kernel
theorem d_X12_steps_368 : decode cX12_steps 368 = .ok (.getfield 349, 3) := by decide +kernel
theorem d_X12_steps_371 : decode cX12_steps 371 = .ok (.lload 23, 2) := by decide +kernel
theorem d_X12_steps_373 : decode cX12_steps 373 = .ok (.lload 25, 2) := by decide +kernel
theorem d_X12_steps_375 : decode cX12_steps 375 = .ok (.ladd, 1) := by decide +kernel
theorem d_X12_steps_376 : decode cX12_steps 376 = .ok (.ladd, 1) := by decide +kernel
theorem d_X12_steps_377 : decode cX12_steps 377 = .ok (.putfield 349, 3) := by decide +kernel
theorem d_X12_steps_380 : decode cX12_steps 380 = .ok (.aload_n 0, 1) := by decide +kernel
theorem d_X12_steps_381 : decode cX12_steps 381 = .ok (.dup, 1) := by decide +kernel
theorem d_X12_steps_382 : decode cX12_steps 382 = .ok (.getfield 352, 3) := by decide +kernel
theorem d_X12_steps_385 : decode cX12_steps 385 = .ok (.lload 21, 2) := by decide +kernel
theorem d_X12_steps_387 : decode cX12_steps 387 = .ok (.ladd, 1) := by decide +kernel
theorem d_X12_steps_388 : decode cX12_steps 388 = .ok (.putfield 352, 3) := by decide +kernel
theorem d_X12_steps_391 : decode cX12_steps 391 = .ok (.aload_n 0, 1) := by decide +kernel
theorem d_X12_steps_392 : decode cX12_steps 392 = .ok (.dup, 1) := by decide +kernel
theorem d_X12_steps_393 : decode cX12_steps 393 = .ok (.getfield 355, 3) := by decide +kernel
theorem d_X12_steps_396 : decode cX12_steps 396 = .ok (.lload 25, 2) := by decide +kernel
theorem d_X12_steps_398 : decode cX12_steps 398 = .ok (.ladd, 1) := by decide +kernel
theorem d_X12_steps_399 : decode cX12_steps 399 = .ok (.putfield 355, 3) := by decide +kernel
theorem d_X12_steps_402 : decode cX12_steps 402 = .ok (.aload_n 0, 1) := by decide +kernel
theorem d_X12_steps_403 : decode cX12_steps 403 = .ok (.dup, 1) := by decide +kernel
theorem d_X12_steps_404 : decode cX12_steps 404 = .ok (.getfield 326, 3) := by decide +kernel
theorem d_X12_steps_407 : decode cX12_steps 407 = .ok (.iload 4, 2) := by decide +kernel
theorem d_X12_steps_409 : decode cX12_steps 409 = .ok (.ifCond .eq 8, 3) := by decide +kernel
theorem d_X12_steps_412 : decode cX12_steps 412 = .ok (.lload 21, 2) := by decide +kernel
theorem d_X12_steps_414 : decode cX12_steps 414 = .ok (.goto 8, 3) := by decide +kernel
theorem d_X12_steps_417 : decode cX12_steps 417 = .ok (.lload 23, 2) := by decide +kernel
theorem d_X12_steps_419 : decode cX12_steps 419 = .ok (.lload 25, 2) := by decide +kernel
theorem d_X12_steps_421 : decode cX12_steps 421 = .ok (.ladd, 1) := by decide +kernel
theorem d_X12_steps_422 : decode cX12_steps 422 = .ok (.lsub, 1) := by decide +kernel
theorem d_X12_steps_423 : decode cX12_steps 423 = .ok (.putfield 326, 3) := by decide +kernel
theorem d_X12_steps_426 : decode cX12_steps 426 = .ok (.aload_n 0, 1) := by decide +kernel
theorem d_X12_steps_427 : decode cX12_steps 427 = .ok (.iload_n 1, 1) := by decide +kernel
theorem d_X12_steps_428 : decode cX12_steps 428 = .ok (.iconst 0, 1) := by decide +kernel
theorem d_X12_steps_429 : decode cX12_steps 429 = .ok (.lload 15, 2) := by decide +kernel
theorem d_X12_steps_431 : decode cX12_steps 431 = .ok (.invokevirtual 208, 3) := by decide +kernel
theorem d_X12_steps_434 : decode cX12_steps 434 = .ok (.iload 14, 2) := by decide +kernel
theorem d_X12_steps_436 : decode cX12_steps 436 = .ok (.ifCond .ne 26, 3) := by decide +kernel
theorem d_X12_steps_439 : decode cX12_steps 439 = .ok (.aload_n 0, 1) := by decide +kernel
theorem d_X12_steps_440 : decode cX12_steps 440 = .ok (.iload_n 1, 1) := by decide +kernel
theorem d_X12_steps_441 : decode cX12_steps 441 = .ok (.iconst 1, 1) := by decide +kernel
theorem d_X12_steps_442 : decode cX12_steps 442 = .ok (.aload_n 0, 1) := by decide +kernel
theorem d_X12_steps_443 : decode cX12_steps 443 = .ok (.iload_n 1, 1) := by decide +kernel
theorem d_X12_steps_444 : decode cX12_steps 444 = .ok (.aload_n 0, 1) := by decide +kernel
theorem d_X12_steps_445 : decode cX12_steps 445 = .ok (.lload 15, 2) := by decide +kernel
theorem d_X12_steps_447 : decode cX12_steps 447 = .ok (.invokevirtual 212, 3) := by decide +kernel
theorem d_X12_steps_450 : decode cX12_steps 450 = .ok (.iload_n 2, 1) := by decide +kernel
theorem d_X12_steps_451 : decode cX12_steps 451 = .ok (.iload 5, 2) := by decide +kernel
theorem d_X12_steps_453 : decode cX12_steps 453 = .ok (.invokevirtual 358, 3) := by decide +kernel
theorem d_X12_steps_456 : decode cX12_steps 456 = .ok (.i2l, 1) := by decide +kernel
theorem d_X12_steps_457 : decode cX12_steps 457 = .ok (.invokevirtual 208, 3) := by decide +kernel
theorem d_X12_steps_460 : decode cX12_steps 460 = .ok (.iconst 0, 1) := by decide +kernel
theorem d_X12_steps_461 : decode cX12_steps 461 = .ok (.ireturn, 1) := by decide +kernel
theorem d_X12_steps_462 : decode cX12_steps 462 = .ok (.iload 5, 2) := by decide +kernel
theorem d_X12_steps_464 : decode cX12_steps 464 = .ok (.iload_n 3, 1) := by decide +kernel
theorem d_X12_steps_465 : decode cX12_steps 465 = .ok (.if_icmp .ne 24, 3) := by decide +kernel
theorem d_X12_steps_468 : decode cX12_steps 468 = .ok (.aload_n 0, 1) := by decide +kernel
theorem d_X12_steps_469 : decode cX12_steps 469 = .ok (.iload_n 1, 1) := by decide +kernel
theorem d_X12_steps_470 : decode cX12_steps 470 = .ok (.iconst 1, 1) := by decide +kernel
theorem d_X12_steps_471 : decode cX12_steps 471 = .ok (.iload_n 2, 1) := by decide +kernel
theorem d_X12_steps_472 : decode cX12_steps 472 = .ok (.ifCond .ne 8, 3) := by decide +kernel
theorem d_X12_steps_475 : decode cX12_steps 475 = .ok (.iload_n 3, 1) := by decide +kernel
theorem d_X12_steps_476 : decode cX12_steps 476 = .ok (.i2l, 1) := by decide +kernel
theorem d_X12_steps_477 : decode cX12_steps 477 = .ok (.goto 7, 3) := by decide +kernel
theorem d_X12_steps_480 : decode cX12_steps 480 = .ok (.iload_n 3, 1) := by decide +kernel
theorem d_X12_steps_481 : decode cX12_steps 481 = .ok (.iconst 1, 1) := by decide +kernel
theorem d_X12_steps_482 : decode cX12_steps 482 = .ok (.isub, 1) := by decide +kernel
theorem d_X12_steps_483 : decode cX12_steps 483 = .ok (.i2l, 1) := by decide +kernel
theorem d_X12_steps_484 : decode cX12_steps 484 = .ok (.invokevirtual 208, 3) := by decide +kernel
theorem d_X12_steps_487 : decode cX12_steps 487 = .ok (.iconst 1, 1) := by decide +kernel
theorem d_X12_steps_488 : decode cX12_steps 488 = .ok (.ireturn, 1) := by decide +kernel
theorem d_X12_steps_489 : decode cX12_steps 489 = .ok (.aload_n 0, 1) := by decide +kernel
theorem d_X12_steps_490 : decode cX12_steps 490 = .ok (.dup, 1) := by decide +kernel
theorem d_X12_steps_491 : decode cX12_steps 491 = .ok (.getfield 362, 3) := by decide +kernel
theorem d_X12_steps_494 : decode cX12_steps 494 = .ok (.iconst 1, 1) := by decide +kernel
theorem d_X12_steps_495 : decode cX12_steps 495 = .ok (.iadd, 1) := by decide +kernel
theorem d_X12_steps_496 : decode cX12_steps 496 = .ok (.putfield 362, 3) := by decide +kernel
theorem d_X12_steps_499 : decode cX12_steps 499 = .ok (.aload_n 0, 1) := by decide +kernel
theorem d_X12_steps_500 : decode cX12_steps 500 = .ok (.getfield 17, 3) := by decide +kernel
theorem d_X12_steps_503 : decode cX12_steps 503 = .ok (.iconst 1, 1) := by decide +kernel
theorem d_X12_steps_504 : decode cX12_steps 504 = .ok (.dup2, 1) := by decide +kernel
theorem d_X12_steps_505 : decode cX12_steps 505 = .ok (.laload, 1) := by decide +kernel
theorem d_X12_steps_506 : decode cX12_steps 506 = .ok (.lconst 1, 1) := by decide +kernel
theorem d_X12_steps_507 : decode cX12_steps 507 = .ok (.ladd, 1) := by decide +kernel
theorem d_X12_steps_508 : decode cX12_steps 508 = .ok (.lastore, 1) := by decide +kernel
theorem d_X12_steps_509 : decode cX12_steps 509 = .ok (.aload_n 0, 1) := by decide +kernel
theorem d_X12_steps_510 : decode cX12_steps 510 = .ok (.iload_n 1, 1) := by decide +kernel
theorem d_X12_steps_511 : decode cX12_steps 511 = .ok (.iconst 1, 1) := by decide +kernel
theorem d_X12_steps_512 : decode cX12_steps 512 = .ok (.iload_n 2, 1) := by decide +kernel
theorem d_X12_steps_513 : decode cX12_steps 513 = .ok (.ifCond .ne 11, 3) := by decide +kernel
theorem d_X12_steps_516 : decode cX12_steps 516 = .ok (.iload 5, 2) := by decide +kernel
theorem d_X12_steps_518 : decode cX12_steps 518 = .ok (.iconst 1, 1) := by decide +kernel
theorem d_X12_steps_519 : decode cX12_steps 519 = .ok (.isub, 1) := by decide +kernel
theorem d_X12_steps_520 : decode cX12_steps 520 = .ok (.i2l, 1) := by decide +kernel
theorem d_X12_steps_521 : decode cX12_steps 521 = .ok (.goto 6, 3) := by decide +kernel
theorem d_X12_steps_524 : decode cX12_steps 524 = .ok (.iload 5, 2) := by decide +kernel
theorem d_X12_steps_526 : decode cX12_steps 526 = .ok (.i2l, 1) := by decide +kernel
theorem d_X12_steps_527 : decode cX12_steps 527 = .ok (.invokevirtual 208, 3) := by decide +kernel
theorem d_X12_steps_530 : decode cX12_steps 530 = .ok (.aload_n 0, 1) := by decide +kernel
theorem d_X12_steps_531 : decode cX12_steps 531 = .ok (.iload_n 1, 1) := by decide +kernel
theorem d_X12_steps_532 : decode cX12_steps 532 = .ok (.iload_n 2, 1) := by decide +kernel
theorem d_X12_steps_533 : decode cX12_steps 533 = .ok (.iload 5, 2) := by decide +kernel
theorem d_X12_steps_535 : decode cX12_steps 535 = .ok (.invokevirtual 365, 3) := by decide +kernel
theorem d_X12_steps_538 : decode cX12_steps 538 = .ok (.iconst 0, 1) := by decide +kernel
theorem d_X12_steps_539 : decode cX12_steps 539 = .ok (.ireturn, 1) := by decide +kernel
def f_X12_steps_484 (s0 : Int64) (s1 : Int32) (s2 : Int32) (S : Mem) : Option (Int32 × Mem) := ((f_X12_setPool s2 s1 s0 S).bind fun q484 => (some (1, q484.2)))
set_option maxRecDepth 20000 in
theorem t_X12_steps_484 {X : MC} {Γ : GG} (C : CX X Γ cX12_steps 27 "TickPoolsModel" 5 133) (hr : X.2.2.2.2.2.2.2.2.1.sig.returnType = some .boolean) {q : Int32 × Mem} (s0 : Int64) (s1 : Int32) (s2 : Int32) (S : Mem) (hf : f_X12_steps_484 s0 s1 s2 S = some q) : ZZ X Γ 27 (QQ X Γ (some (aI q.1)) q.2) S 484 [] [aJ s0, aI s1, aI s2, aR 20] := by
  unfold f_X12_steps_484 at hf
  obtain ⟨q484, hF, hf⟩ := bd hf
  refine z_callV0 (rest := []) C [aI s2, aI s1, aJ s0] rfl (by decide) rfl rfl k_X12_setPool tw_1451 ⟨by decide, by decide⟩ (Nat.le_of_ble_eq_true rfl) d_X12_steps_484 (c_X12_setPool C.inj hF) rfl ?_
  refine z_iconst (v := 1) C d_X12_steps_487 (by decide) ?_
  exact r_i C hr (by decide) d_X12_steps_488 hf
def f_X12_steps_527 (v1 : Int32) (v2 : Int32) (v5 : Int32) (s0 : Int64) (s1 : Int32) (s2 : Int32) (S : Mem) : Option (Int32 × Mem) := ((f_X12_setPool s2 s1 s0 S).bind fun q527 => ((f_X12_drops v1 v2 v5 q527.2).bind fun q535 => (some (0, q535.2))))
set_option maxRecDepth 20000 in
theorem t_X12_steps_527 {X : MC} {Γ : GG} (C : CX X Γ cX12_steps 27 "TickPoolsModel" 5 133) (hr : X.2.2.2.2.2.2.2.2.1.sig.returnType = some .boolean) {q : Int32 × Mem} (v1 : Int32) (v2 : Int32) (v5 : Int32) (s0 : Int64) (s1 : Int32) (s2 : Int32) (S : Mem) (hf : f_X12_steps_527 v1 v2 v5 s0 s1 s2 S = some q) : ZZ X Γ 27 (QQ X Γ (some (aI q.1)) q.2) S 527 [(0, aR 20), (1, aI v1), (2, aI v2), (5, aI v5)] [aJ s0, aI s1, aI s2, aR 20] := by
  unfold f_X12_steps_527 at hf
  obtain ⟨q527, hF, hf⟩ := bd hf
  refine z_callV0 (rest := []) C [aI s2, aI s1, aJ s0] rfl (by decide) rfl rfl k_X12_setPool tw_1451 ⟨by decide, by decide⟩ (Nat.le_of_ble_eq_true rfl) d_X12_steps_527 (c_X12_setPool C.inj hF) rfl ?_
  refine z_aload_n (j := 0) C d_X12_steps_530 rfl ?_
  refine z_iload_n (j := 1) C d_X12_steps_531 rfl ?_
  refine z_iload_n (j := 2) C d_X12_steps_532 rfl ?_
  refine z_iload (j := 3) C d_X12_steps_533 rfl ?_
  obtain ⟨q535, hF, hf⟩ := bd hf
  refine z_callV0 (rest := []) C [aI v1, aI v2, aI v5] rfl (by decide) rfl rfl k_X12_drops tw_1658 ⟨by decide, by decide⟩ (Nat.le_of_ble_eq_true rfl) d_X12_steps_535 (c_X12_drops C.inj hF) rfl ?_
  refine z_iconst (v := 0) C d_X12_steps_538 (by decide) ?_
  exact r_i C hr (by decide) d_X12_steps_539 hf
def f_X12_steps_422 (v1 : Int32) (v2 : Int32) (v3 : Int32) (v5 : Int32) (v14 : Int32) (v15 : Int64) (s0 : Int64) (s1 : Int64) (S : Mem) : Option (Int32 × Mem) := ((f_X12_setPool v1 0 v15 (sL S 20 29 (s1 - s0))).bind fun q431 => (if v14 = 0 then ((f_X12_zoneOf v15 q431.2).bind fun q447 => ((f_X12_zoneBy v1 q447.1 v2 v5 q447.2).bind fun q453 => ((f_X12_setPool v1 1 (q453.1.toInt64) q453.2).bind fun q457 => (some (0, q457.2))))) else (if v5 = v3 then (if v2 = 0 then (f_X12_steps_484  (v3.toInt64) 1 v1 q431.2) else (f_X12_steps_484  (((v3 - 1) : Int32).toInt64) 1 v1 q431.2)) else (if v2 = 0 then (f_X12_steps_527  v1 v2 v5 (((v5 - 1) : Int32).toInt64) 1 v1 (sL (sI q431.2 20 33 ((gI q431.2 20 33) + 1)) 23 ((1 : Int32).toNatClampNeg) ((gL (sI q431.2 20 33 ((gI q431.2 20 33) + 1)) 23 ((1 : Int32).toNatClampNeg)) + 1))) else (f_X12_steps_527  v1 v2 v5 (v5.toInt64) 1 v1 (sL (sI q431.2 20 33 ((gI q431.2 20 33) + 1)) 23 ((1 : Int32).toNatClampNeg) ((gL (sI q431.2 20 33 ((gI q431.2 20 33) + 1)) 23 ((1 : Int32).toNatClampNeg)) + 1)))))))
set_option maxRecDepth 20000 in
theorem t_X12_steps_422 {X : MC} {Γ : GG} (C : CX X Γ cX12_steps 27 "TickPoolsModel" 5 133) (hr : X.2.2.2.2.2.2.2.2.1.sig.returnType = some .boolean) {q : Int32 × Mem} (v1 : Int32) (v2 : Int32) (v3 : Int32) (v5 : Int32) (v14 : Int32) (v15 : Int64) (s0 : Int64) (s1 : Int64) (S : Mem) (hf : f_X12_steps_422 v1 v2 v3 v5 v14 v15 s0 s1 S = some q) : ZZ X Γ 27 (QQ X Γ (some (aI q.1)) q.2) S 422 [(0, aR 20), (1, aI v1), (2, aI v2), (3, aI v3), (5, aI v5), (14, aI v14), (15, aJ v15)] [aJ s0, aJ s1, aR 20] := by
  unfold f_X12_steps_422 at hf
  refine z_lsub C d_X12_steps_422 ?_
  refine zp_X12_left C rfl tw_1240 d_X12_steps_423 ?_
  refine z_aload_n (j := 0) C d_X12_steps_426 rfl ?_
  refine z_iload_n (j := 1) C d_X12_steps_427 rfl ?_
  refine z_iconst (v := 0) C d_X12_steps_428 (by decide) ?_
  refine z_lload (j := 6) C d_X12_steps_429 rfl ?_
  obtain ⟨q431, hF, hf⟩ := bd hf
  refine z_callV0 (rest := []) C [aI v1, aI 0, aJ v15] rfl (by decide) rfl rfl k_X12_setPool tw_1451 ⟨by decide, by decide⟩ (Nat.le_of_ble_eq_true rfl) d_X12_steps_431 (c_X12_setPool C.inj hF) rfl ?_
  refine z_iload (j := 5) C d_X12_steps_434 rfl ?_
  refine z_if_ne (tgt := 462) C d_X12_steps_436 (by decide) hf (fun c436 hf => ?_) (fun c436 hf => ?_)
  · refine z_iload (j := 4) C d_X12_steps_462 rfl ?_
    refine z_iload_n (j := 3) C d_X12_steps_464 rfl ?_
    refine z_icmp_ne (tgt := 489) C d_X12_steps_465 (by decide) hf (fun c465 hf => ?_) (fun c465 hf => ?_)
    · refine z_aload_n (j := 0) C d_X12_steps_489 rfl ?_
      refine z_dup C d_X12_steps_490 rfl ?_
      refine zg_X12_crossed C rfl tw_1244 d_X12_steps_491 ?_
      refine z_iconst (v := 1) C d_X12_steps_494 (by decide) ?_
      refine z_iadd C d_X12_steps_495 ?_
      refine zp_X12_crossed C rfl tw_1244 d_X12_steps_496 ?_
      refine z_aload_n (j := 0) C d_X12_steps_499 rfl ?_
      refine zg_X12_now C rfl tw_1216 d_X12_steps_500 ?_
      refine z_iconst (v := 1) C d_X12_steps_503 (by decide) ?_
      refine z_dup2_11 C d_X12_steps_504 rfl rfl ?_
      refine z_lald C rfl (by decide) d_X12_steps_505 ?_
      refine z_lconst (v := 1) C d_X12_steps_506 (by decide) ?_
      refine z_ladd C d_X12_steps_507 ?_
      refine z_last C rfl (by decide) d_X12_steps_508 ?_
      refine z_aload_n (j := 0) C d_X12_steps_509 rfl ?_
      refine z_iload_n (j := 1) C d_X12_steps_510 rfl ?_
      refine z_iconst (v := 1) C d_X12_steps_511 (by decide) ?_
      refine z_iload_n (j := 2) C d_X12_steps_512 rfl ?_
      refine z_if_ne (tgt := 524) C d_X12_steps_513 (by decide) hf (fun c513 hf => ?_) (fun c513 hf => ?_)
      · refine z_iload (j := 4) C d_X12_steps_524 rfl ?_
        refine z_i2l C d_X12_steps_526 ?_
        exact z_sub [0, 1, 2, 4] rfl (t_X12_steps_527 C hr  _ _ _ _ _ _ _ hf)
      · refine z_iload (j := 4) C d_X12_steps_516 rfl ?_
        refine z_iconst (v := 1) C d_X12_steps_518 (by decide) ?_
        refine z_isub C d_X12_steps_519 ?_
        refine z_i2l C d_X12_steps_520 ?_
        refine z_goto (tgt := 527) C d_X12_steps_521 (by decide) ?_
        exact z_sub [0, 1, 2, 4] rfl (t_X12_steps_527 C hr  _ _ _ _ _ _ _ hf)
    · refine z_aload_n (j := 0) C d_X12_steps_468 rfl ?_
      refine z_iload_n (j := 1) C d_X12_steps_469 rfl ?_
      refine z_iconst (v := 1) C d_X12_steps_470 (by decide) ?_
      refine z_iload_n (j := 2) C d_X12_steps_471 rfl ?_
      refine z_if_ne (tgt := 480) C d_X12_steps_472 (by decide) hf (fun c472 hf => ?_) (fun c472 hf => ?_)
      · refine z_iload_n (j := 3) C d_X12_steps_480 rfl ?_
        refine z_iconst (v := 1) C d_X12_steps_481 (by decide) ?_
        refine z_isub C d_X12_steps_482 ?_
        refine z_i2l C d_X12_steps_483 ?_
        exact z_sub [] rfl (t_X12_steps_484 C hr  _ _ _ _ hf)
      · refine z_iload_n (j := 3) C d_X12_steps_475 rfl ?_
        refine z_i2l C d_X12_steps_476 ?_
        refine z_goto (tgt := 484) C d_X12_steps_477 (by decide) ?_
        exact z_sub [] rfl (t_X12_steps_484 C hr  _ _ _ _ hf)
  · refine z_aload_n (j := 0) C d_X12_steps_439 rfl ?_
    refine z_iload_n (j := 1) C d_X12_steps_440 rfl ?_
    refine z_iconst (v := 1) C d_X12_steps_441 (by decide) ?_
    refine z_aload_n (j := 0) C d_X12_steps_442 rfl ?_
    refine z_iload_n (j := 1) C d_X12_steps_443 rfl ?_
    refine z_aload_n (j := 0) C d_X12_steps_444 rfl ?_
    refine z_lload (j := 6) C d_X12_steps_445 rfl ?_
    obtain ⟨q447, hF, hf⟩ := bd hf
    refine z_callV1 (rest := [aI v1, aR 20, aI 1, aI v1, aR 20]) C [aJ v15] rfl (by decide) rfl rfl k_X12_zoneOf tw_1455 ⟨by decide, by decide⟩ (Nat.le_of_ble_eq_true rfl) d_X12_steps_447 (c_X12_zoneOf C.inj hF) rfl ?_
    refine z_iload_n (j := 2) C d_X12_steps_450 rfl ?_
    refine z_iload (j := 4) C d_X12_steps_451 rfl ?_
    obtain ⟨q453, hF, hf⟩ := bd hf
    refine z_callV1 (rest := [aI 1, aI v1, aR 20]) C [aI v1, aI q447.1, aI v2, aI v5] rfl (by decide) rfl rfl k_X12_zoneBy tw_1654 ⟨by decide, by decide⟩ (Nat.le_of_ble_eq_true rfl) d_X12_steps_453 (c_X12_zoneBy C.inj hF) rfl ?_
    refine z_i2l C d_X12_steps_456 ?_
    obtain ⟨q457, hF, hf⟩ := bd hf
    refine z_callV0 (rest := []) C [aI v1, aI 1, aJ (q453.1.toInt64)] rfl (by decide) rfl rfl k_X12_setPool tw_1451 ⟨by decide, by decide⟩ (Nat.le_of_ble_eq_true rfl) d_X12_steps_457 (c_X12_setPool C.inj hF) rfl ?_
    refine z_iconst (v := 0) C d_X12_steps_460 (by decide) ?_
    exact r_i C hr (by decide) d_X12_steps_461 hf
def f_X12_steps_402 (v1 : Int32) (v2 : Int32) (v3 : Int32) (v4 : Int32) (v5 : Int32) (v14 : Int32) (v15 : Int64) (v21 : Int64) (v23 : Int64) (v25 : Int64) (S : Mem) : Option (Int32 × Mem) := (if v4 = 0 then (f_X12_steps_422  v1 v2 v3 v5 v14 v15 (v23 + v25) (gL S 20 29) S) else (f_X12_steps_422  v1 v2 v3 v5 v14 v15 v21 (gL S 20 29) S))
set_option maxRecDepth 20000 in
theorem t_X12_steps_402 {X : MC} {Γ : GG} (C : CX X Γ cX12_steps 27 "TickPoolsModel" 5 133) (hr : X.2.2.2.2.2.2.2.2.1.sig.returnType = some .boolean) {q : Int32 × Mem} (v1 : Int32) (v2 : Int32) (v3 : Int32) (v4 : Int32) (v5 : Int32) (v14 : Int32) (v15 : Int64) (v21 : Int64) (v23 : Int64) (v25 : Int64) (S : Mem) (hf : f_X12_steps_402 v1 v2 v3 v4 v5 v14 v15 v21 v23 v25 S = some q) : ZZ X Γ 27 (QQ X Γ (some (aI q.1)) q.2) S 402 [(0, aR 20), (1, aI v1), (2, aI v2), (3, aI v3), (4, aI v4), (5, aI v5), (14, aI v14), (15, aJ v15), (21, aJ v21), (23, aJ v23), (25, aJ v25)] [] := by
  unfold f_X12_steps_402 at hf
  refine z_aload_n (j := 0) C d_X12_steps_402 rfl ?_
  refine z_dup C d_X12_steps_403 rfl ?_
  refine zg_X12_left C rfl tw_1240 d_X12_steps_404 ?_
  refine z_iload (j := 4) C d_X12_steps_407 rfl ?_
  refine z_if_eq (tgt := 417) C d_X12_steps_409 (by decide) hf (fun c409 hf => ?_) (fun c409 hf => ?_)
  · refine z_lload (j := 9) C d_X12_steps_417 rfl ?_
    refine z_lload (j := 10) C d_X12_steps_419 rfl ?_
    refine z_ladd C d_X12_steps_421 ?_
    exact z_sub [0, 1, 2, 3, 5, 6, 7] rfl (t_X12_steps_422 C hr  _ _ _ _ _ _ _ _ _ hf)
  · refine z_lload (j := 8) C d_X12_steps_412 rfl ?_
    refine z_goto (tgt := 422) C d_X12_steps_414 (by decide) ?_
    exact z_sub [0, 1, 2, 3, 5, 6, 7] rfl (t_X12_steps_422 C hr  _ _ _ _ _ _ _ _ _ hf)
def f_X12_steps_332 (v1 : Int32) (v2 : Int32) (v3 : Int32) (v4 : Int32) (v5 : Int32) (v14 : Int32) (v15 : Int64) (v21 : Int64) (v23 : Int64) (s0 : Int64) (S : Mem) : Option (Int32 × Mem) := ((f_X12_shares v1 v2 s0 S).bind fun q339 => ((f_X12_morePool v1 (2 + v2) (v23 + s0) q339.2).bind fun q352 => ((f_X12_morePool v1 (3 - v2) (-v21) q352.2).bind fun q363 => (f_X12_steps_402  v1 v2 v3 v4 v5 v14 v15 v21 v23 s0 (sL (sL (sL q363.2 20 30 ((gL q363.2 20 30) + (v23 + s0))) 20 31 ((gL (sL q363.2 20 30 ((gL q363.2 20 30) + (v23 + s0))) 20 31) + v21)) 20 32 ((gL (sL (sL q363.2 20 30 ((gL q363.2 20 30) + (v23 + s0))) 20 31 ((gL (sL q363.2 20 30 ((gL q363.2 20 30) + (v23 + s0))) 20 31) + v21)) 20 32) + s0))))))
set_option maxRecDepth 20000 in
theorem t_X12_steps_332 {X : MC} {Γ : GG} (C : CX X Γ cX12_steps 27 "TickPoolsModel" 5 133) (hr : X.2.2.2.2.2.2.2.2.1.sig.returnType = some .boolean) {q : Int32 × Mem} (v1 : Int32) (v2 : Int32) (v3 : Int32) (v4 : Int32) (v5 : Int32) (v14 : Int32) (v15 : Int64) (v21 : Int64) (v23 : Int64) (s0 : Int64) (S : Mem) (hf : f_X12_steps_332 v1 v2 v3 v4 v5 v14 v15 v21 v23 s0 S = some q) : ZZ X Γ 27 (QQ X Γ (some (aI q.1)) q.2) S 332 [(0, aR 20), (1, aI v1), (2, aI v2), (3, aI v3), (4, aI v4), (5, aI v5), (14, aI v14), (15, aJ v15), (21, aJ v21), (23, aJ v23)] [aJ s0] := by
  unfold f_X12_steps_332 at hf
  refine z_lstore (lv' := [(25, aJ s0), (0, aR 20), (1, aI v1), (2, aI v2), (3, aI v3), (4, aI v4), (5, aI v5), (14, aI v14), (15, aJ v15), (21, aJ v21), (23, aJ v23)]) C d_X12_steps_332 (by decide) rfl ?_
  refine z_aload_n (j := 1) C d_X12_steps_334 rfl ?_
  refine z_iload_n (j := 2) C d_X12_steps_335 rfl ?_
  refine z_iload_n (j := 3) C d_X12_steps_336 rfl ?_
  refine z_lload (j := 0) C d_X12_steps_337 rfl ?_
  obtain ⟨q339, hF, hf⟩ := bd hf
  refine z_callV0 (rest := []) C [aI v1, aI v2, aJ s0] rfl (by decide) rfl rfl k_X12_shares tw_1649 ⟨by decide, by decide⟩ (Nat.le_of_ble_eq_true rfl) d_X12_steps_339 (c_X12_shares C.inj hF) rfl ?_
  refine z_aload_n (j := 1) C d_X12_steps_342 rfl ?_
  refine z_iload_n (j := 2) C d_X12_steps_343 rfl ?_
  refine z_iconst (v := 2) C d_X12_steps_344 (by decide) ?_
  refine z_iload_n (j := 3) C d_X12_steps_345 rfl ?_
  refine z_iadd C d_X12_steps_346 ?_
  refine z_lload (j := 10) C d_X12_steps_347 rfl ?_
  refine z_lload (j := 0) C d_X12_steps_349 rfl ?_
  refine z_ladd C d_X12_steps_351 ?_
  obtain ⟨q352, hF, hf⟩ := bd hf
  refine z_callV0 (rest := []) C [aI v1, aI (2 + v2), aJ (v23 + s0)] rfl (by decide) rfl rfl k_X12_morePool tw_1542 ⟨by decide, by decide⟩ (Nat.le_of_ble_eq_true rfl) d_X12_steps_352 (c_X12_morePool C.inj hF) rfl ?_
  refine z_aload_n (j := 1) C d_X12_steps_355 rfl ?_
  refine z_iload_n (j := 2) C d_X12_steps_356 rfl ?_
  refine z_iconst (v := 3) C d_X12_steps_357 (by decide) ?_
  refine z_iload_n (j := 3) C d_X12_steps_358 rfl ?_
  refine z_isub C d_X12_steps_359 ?_
  refine z_lload (j := 9) C d_X12_steps_360 rfl ?_
  refine z_lneg C d_X12_steps_362 ?_
  obtain ⟨q363, hF, hf⟩ := bd hf
  refine z_callV0 (rest := []) C [aI v1, aI (3 - v2), aJ (-v21)] rfl (by decide) rfl rfl k_X12_morePool tw_1542 ⟨by decide, by decide⟩ (Nat.le_of_ble_eq_true rfl) d_X12_steps_363 (c_X12_morePool C.inj hF) rfl ?_
  refine z_aload_n (j := 1) C d_X12_steps_366 rfl ?_
  refine z_dup C d_X12_steps_367 rfl ?_
  refine zg_X12_came C rfl tw_1241 d_X12_steps_368 ?_
  refine z_lload (j := 10) C d_X12_steps_371 rfl ?_
  refine z_lload (j := 0) C d_X12_steps_373 rfl ?_
  refine z_ladd C d_X12_steps_375 ?_
  refine z_ladd C d_X12_steps_376 ?_
  refine zp_X12_came C rfl tw_1241 d_X12_steps_377 ?_
  refine z_aload_n (j := 1) C d_X12_steps_380 rfl ?_
  refine z_dup C d_X12_steps_381 rfl ?_
  refine zg_X12_gone C rfl tw_1242 d_X12_steps_382 ?_
  refine z_lload (j := 9) C d_X12_steps_385 rfl ?_
  refine z_ladd C d_X12_steps_387 ?_
  refine zp_X12_gone C rfl tw_1242 d_X12_steps_388 ?_
  refine z_aload_n (j := 1) C d_X12_steps_391 rfl ?_
  refine z_dup C d_X12_steps_392 rfl ?_
  refine zg_X12_fees C rfl tw_1243 d_X12_steps_393 ?_
  refine z_lload (j := 0) C d_X12_steps_396 rfl ?_
  refine z_ladd C d_X12_steps_398 ?_
  refine zp_X12_fees C rfl tw_1243 d_X12_steps_399 ?_
  exact z_sub [1, 2, 3, 4, 5, 6, 7, 8, 9, 10, 0] rfl (t_X12_steps_402 C hr  _ _ _ _ _ _ _ _ _ _ _ hf)
def f_X12_steps_315 (v1 : Int32) (v2 : Int32) (v3 : Int32) (v4 : Int32) (v5 : Int32) (v14 : Int32) (v15 : Int64) (v21 : Int64) (v23 : Int64) (S : Mem) : Option (Int32 × Mem) := ((f_X12_feeUpon v1 v23 S).bind fun q319 => (f_X12_steps_332  v1 v2 v3 v4 v5 v14 v15 v21 v23 q319.1 q319.2))
set_option maxRecDepth 20000 in
theorem t_X12_steps_315 {X : MC} {Γ : GG} (C : CX X Γ cX12_steps 27 "TickPoolsModel" 5 133) (hr : X.2.2.2.2.2.2.2.2.1.sig.returnType = some .boolean) {q : Int32 × Mem} (v1 : Int32) (v2 : Int32) (v3 : Int32) (v4 : Int32) (v5 : Int32) (v14 : Int32) (v15 : Int64) (v21 : Int64) (v23 : Int64) (S : Mem) (hf : f_X12_steps_315 v1 v2 v3 v4 v5 v14 v15 v21 v23 S = some q) : ZZ X Γ 27 (QQ X Γ (some (aI q.1)) q.2) S 315 [(0, aR 20), (1, aI v1), (2, aI v2), (3, aI v3), (4, aI v4), (5, aI v5), (14, aI v14), (15, aJ v15), (21, aJ v21), (23, aJ v23)] [] := by
  unfold f_X12_steps_315 at hf
  refine z_aload_n (j := 0) C d_X12_steps_315 rfl ?_
  refine z_iload_n (j := 1) C d_X12_steps_316 rfl ?_
  refine z_lload (j := 9) C d_X12_steps_317 rfl ?_
  obtain ⟨q319, hF, hf⟩ := bd hf
  refine z_callV1 (rest := []) C [aI v1, aJ v23] rfl (by decide) rfl rfl k_X12_feeUpon tw_1645 ⟨by decide, by decide⟩ (Nat.le_of_ble_eq_true rfl) d_X12_steps_319 (c_X12_feeUpon C.inj hF) rfl ?_
  refine z_goto (tgt := 332) C d_X12_steps_322 (by decide) ?_
  exact z_sub [0, 1, 2, 3, 4, 5, 6, 7, 8, 9] rfl (t_X12_steps_332 C hr  _ _ _ _ _ _ _ _ _ _ _ hf)
def f_X12_steps_303 (v1 : Int32) (v2 : Int32) (v3 : Int32) (v4 : Int32) (v5 : Int32) (v10 : Int64) (v14 : Int32) (v15 : Int64) (v21 : Int64) (s0 : Int64) (S : Mem) : Option (Int32 × Mem) := (if v4 = 0 then (if v14 = 0 then (f_X12_steps_332  v1 v2 v3 v4 v5 v14 v15 v21 s0 ((gL S 20 29) - v10) S) else (f_X12_steps_315  v1 v2 v3 v4 v5 v14 v15 v21 s0 S)) else (f_X12_steps_315  v1 v2 v3 v4 v5 v14 v15 v21 s0 S))
set_option maxRecDepth 20000 in
theorem t_X12_steps_303 {X : MC} {Γ : GG} (C : CX X Γ cX12_steps 27 "TickPoolsModel" 5 133) (hr : X.2.2.2.2.2.2.2.2.1.sig.returnType = some .boolean) {q : Int32 × Mem} (v1 : Int32) (v2 : Int32) (v3 : Int32) (v4 : Int32) (v5 : Int32) (v10 : Int64) (v14 : Int32) (v15 : Int64) (v21 : Int64) (s0 : Int64) (S : Mem) (hf : f_X12_steps_303 v1 v2 v3 v4 v5 v10 v14 v15 v21 s0 S = some q) : ZZ X Γ 27 (QQ X Γ (some (aI q.1)) q.2) S 303 [(0, aR 20), (1, aI v1), (2, aI v2), (3, aI v3), (4, aI v4), (5, aI v5), (10, aJ v10), (14, aI v14), (15, aJ v15), (21, aJ v21)] [aJ s0] := by
  unfold f_X12_steps_303 at hf
  refine z_lstore (lv' := [(23, aJ s0), (0, aR 20), (1, aI v1), (2, aI v2), (3, aI v3), (4, aI v4), (5, aI v5), (10, aJ v10), (14, aI v14), (15, aJ v15), (21, aJ v21)]) C d_X12_steps_303 (by decide) rfl ?_
  refine z_iload (j := 5) C d_X12_steps_305 rfl ?_
  refine z_if_ne (tgt := 315) C d_X12_steps_307 (by decide) hf (fun c307 hf => ?_) (fun c307 hf => ?_)
  · exact z_sub [1, 2, 3, 4, 5, 6, 8, 9, 10, 0] rfl (t_X12_steps_315 C hr  _ _ _ _ _ _ _ _ _ _ hf)
  · refine z_iload (j := 8) C d_X12_steps_310 rfl ?_
    refine z_if_eq (tgt := 325) C d_X12_steps_312 (by decide) hf (fun c312 hf => ?_) (fun c312 hf => ?_)
    · refine z_aload_n (j := 1) C d_X12_steps_325 rfl ?_
      refine zg_X12_left C rfl tw_1240 d_X12_steps_326 ?_
      refine z_lload (j := 7) C d_X12_steps_329 rfl ?_
      refine z_lsub C d_X12_steps_331 ?_
      exact z_sub [1, 2, 3, 4, 5, 6, 8, 9, 10, 0] rfl (t_X12_steps_332 C hr  _ _ _ _ _ _ _ _ _ _ _ hf)
    · exact z_sub [1, 2, 3, 4, 5, 6, 8, 9, 10, 0] rfl (t_X12_steps_315 C hr  _ _ _ _ _ _ _ _ _ _ hf)
def f_X12_steps_254 (v1 : Int32) (v2 : Int32) (v3 : Int32) (v4 : Int32) (v5 : Int32) (v6 : Int64) (v10 : Int64) (v12 : Int64) (v14 : Int32) (v15 : Int64) (v17 : Int64) (v19 : Int64) (s0 : Int64) (S : Mem) : Option (Int32 × Mem) := (if v4 = 0 then (if v14 = 0 then (f_X12_steps_303  v1 v2 v3 v4 v5 v10 v14 v15 s0 v10 S) else (f_X12_steps_303  v1 v2 v3 v4 v5 v10 v14 v15 s0 v12 S)) else (if v2 = 0 then ((f_X12_first v6 v17 v19 1 S).bind fun q287 => (f_X12_steps_303  v1 v2 v3 v4 v5 v10 v14 v15 s0 q287.1 q287.2)) else ((f_X12_second v6 v17 v19 1 S).bind fun q300 => (f_X12_steps_303  v1 v2 v3 v4 v5 v10 v14 v15 s0 q300.1 q300.2))))
set_option maxRecDepth 20000 in
theorem t_X12_steps_254 {X : MC} {Γ : GG} (C : CX X Γ cX12_steps 27 "TickPoolsModel" 5 133) (hr : X.2.2.2.2.2.2.2.2.1.sig.returnType = some .boolean) {q : Int32 × Mem} (v1 : Int32) (v2 : Int32) (v3 : Int32) (v4 : Int32) (v5 : Int32) (v6 : Int64) (v10 : Int64) (v12 : Int64) (v14 : Int32) (v15 : Int64) (v17 : Int64) (v19 : Int64) (s0 : Int64) (S : Mem) (hf : f_X12_steps_254 v1 v2 v3 v4 v5 v6 v10 v12 v14 v15 v17 v19 s0 S = some q) : ZZ X Γ 27 (QQ X Γ (some (aI q.1)) q.2) S 254 [(0, aR 20), (1, aI v1), (2, aI v2), (3, aI v3), (4, aI v4), (5, aI v5), (6, aJ v6), (10, aJ v10), (12, aJ v12), (14, aI v14), (15, aJ v15), (17, aJ v17), (19, aJ v19)] [aJ s0] := by
  unfold f_X12_steps_254 at hf
  refine z_lstore (lv' := [(21, aJ s0), (0, aR 20), (1, aI v1), (2, aI v2), (3, aI v3), (4, aI v4), (5, aI v5), (6, aJ v6), (10, aJ v10), (12, aJ v12), (14, aI v14), (15, aJ v15), (17, aJ v17), (19, aJ v19)]) C d_X12_steps_254 (by decide) rfl ?_
  refine z_iload (j := 5) C d_X12_steps_256 rfl ?_
  refine z_if_ne (tgt := 276) C d_X12_steps_258 (by decide) hf (fun c258 hf => ?_) (fun c258 hf => ?_)
  · refine z_iload_n (j := 3) C d_X12_steps_276 rfl ?_
    refine z_if_ne (tgt := 293) C d_X12_steps_277 (by decide) hf (fun c277 hf => ?_) (fun c277 hf => ?_)
    · refine z_lload (j := 7) C d_X12_steps_293 rfl ?_
      refine z_lload (j := 12) C d_X12_steps_295 rfl ?_
      refine z_lload (j := 13) C d_X12_steps_297 rfl ?_
      refine z_iconst (v := 1) C d_X12_steps_299 (by decide) ?_
      obtain ⟨q300, hF, hf⟩ := bd hf
      refine z_callS1 (rest := []) C [aJ v6, aJ v17, aJ v19, aI 1] k_X12_second tw_1514 ⟨by decide, by decide⟩ (Nat.le_of_ble_eq_true rfl) d_X12_steps_300 (c_X12_second C.inj hF) rfl ?_
      exact z_sub [1, 2, 3, 4, 5, 6, 8, 10, 11, 0] rfl (t_X12_steps_303 C hr  _ _ _ _ _ _ _ _ _ _ _ hf)
    · refine z_lload (j := 7) C d_X12_steps_280 rfl ?_
      refine z_lload (j := 12) C d_X12_steps_282 rfl ?_
      refine z_lload (j := 13) C d_X12_steps_284 rfl ?_
      refine z_iconst (v := 1) C d_X12_steps_286 (by decide) ?_
      obtain ⟨q287, hF, hf⟩ := bd hf
      refine z_callS1 (rest := []) C [aJ v6, aJ v17, aJ v19, aI 1] k_X12_first tw_1507 ⟨by decide, by decide⟩ (Nat.le_of_ble_eq_true rfl) d_X12_steps_287 (c_X12_first C.inj hF) rfl ?_
      refine z_goto (tgt := 303) C d_X12_steps_290 (by decide) ?_
      exact z_sub [1, 2, 3, 4, 5, 6, 8, 10, 11, 0] rfl (t_X12_steps_303 C hr  _ _ _ _ _ _ _ _ _ _ _ hf)
  · refine z_iload (j := 10) C d_X12_steps_261 rfl ?_
    refine z_if_eq (tgt := 271) C d_X12_steps_263 (by decide) hf (fun c263 hf => ?_) (fun c263 hf => ?_)
    · refine z_lload (j := 8) C d_X12_steps_271 rfl ?_
      refine z_goto (tgt := 303) C d_X12_steps_273 (by decide) ?_
      exact z_sub [1, 2, 3, 4, 5, 6, 8, 10, 11, 0] rfl (t_X12_steps_303 C hr  _ _ _ _ _ _ _ _ _ _ _ hf)
    · refine z_lload (j := 9) C d_X12_steps_266 rfl ?_
      refine z_goto (tgt := 303) C d_X12_steps_268 (by decide) ?_
      exact z_sub [1, 2, 3, 4, 5, 6, 8, 10, 11, 0] rfl (t_X12_steps_303 C hr  _ _ _ _ _ _ _ _ _ _ _ hf)
def f_X12_steps_205 (v1 : Int32) (v2 : Int32) (v3 : Int32) (v4 : Int32) (v5 : Int32) (v6 : Int64) (v10 : Int64) (v12 : Int64) (v14 : Int32) (v15 : Int64) (v17 : Int64) (s0 : Int64) (S : Mem) : Option (Int32 × Mem) := (if v4 = 0 then (if v2 = 0 then ((f_X12_second v6 v17 s0 0 S).bind fun q238 => (f_X12_steps_254  v1 v2 v3 v4 v5 v6 v10 v12 v14 v15 v17 s0 q238.1 q238.2)) else ((f_X12_first v6 v17 s0 0 S).bind fun q251 => (f_X12_steps_254  v1 v2 v3 v4 v5 v6 v10 v12 v14 v15 v17 s0 q251.1 q251.2))) else (if v14 = 0 then (f_X12_steps_254  v1 v2 v3 v4 v5 v6 v10 v12 v14 v15 v17 s0 v10 S) else (f_X12_steps_254  v1 v2 v3 v4 v5 v6 v10 v12 v14 v15 v17 s0 v12 S)))
set_option maxRecDepth 20000 in
theorem t_X12_steps_205 {X : MC} {Γ : GG} (C : CX X Γ cX12_steps 27 "TickPoolsModel" 5 133) (hr : X.2.2.2.2.2.2.2.2.1.sig.returnType = some .boolean) {q : Int32 × Mem} (v1 : Int32) (v2 : Int32) (v3 : Int32) (v4 : Int32) (v5 : Int32) (v6 : Int64) (v10 : Int64) (v12 : Int64) (v14 : Int32) (v15 : Int64) (v17 : Int64) (s0 : Int64) (S : Mem) (hf : f_X12_steps_205 v1 v2 v3 v4 v5 v6 v10 v12 v14 v15 v17 s0 S = some q) : ZZ X Γ 27 (QQ X Γ (some (aI q.1)) q.2) S 205 [(0, aR 20), (1, aI v1), (2, aI v2), (3, aI v3), (4, aI v4), (5, aI v5), (6, aJ v6), (10, aJ v10), (12, aJ v12), (14, aI v14), (15, aJ v15), (17, aJ v17)] [aJ s0] := by
  unfold f_X12_steps_205 at hf
  refine z_lstore (lv' := [(19, aJ s0), (0, aR 20), (1, aI v1), (2, aI v2), (3, aI v3), (4, aI v4), (5, aI v5), (6, aJ v6), (10, aJ v10), (12, aJ v12), (14, aI v14), (15, aJ v15), (17, aJ v17)]) C d_X12_steps_205 (by decide) rfl ?_
  refine z_iload (j := 5) C d_X12_steps_207 rfl ?_
  refine z_if_eq (tgt := 227) C d_X12_steps_209 (by decide) hf (fun c209 hf => ?_) (fun c209 hf => ?_)
  · refine z_iload_n (j := 3) C d_X12_steps_227 rfl ?_
    refine z_if_ne (tgt := 244) C d_X12_steps_228 (by decide) hf (fun c228 hf => ?_) (fun c228 hf => ?_)
    · refine z_lload (j := 7) C d_X12_steps_244 rfl ?_
      refine z_lload (j := 12) C d_X12_steps_246 rfl ?_
      refine z_lload (j := 0) C d_X12_steps_248 rfl ?_
      refine z_iconst (v := 0) C d_X12_steps_250 (by decide) ?_
      obtain ⟨q251, hF, hf⟩ := bd hf
      refine z_callS1 (rest := []) C [aJ v6, aJ v17, aJ s0, aI 0] k_X12_first tw_1507 ⟨by decide, by decide⟩ (Nat.le_of_ble_eq_true rfl) d_X12_steps_251 (c_X12_first C.inj hF) rfl ?_
      exact z_sub [1, 2, 3, 4, 5, 6, 7, 8, 9, 10, 11, 12, 0] rfl (t_X12_steps_254 C hr  _ _ _ _ _ _ _ _ _ _ _ _ _ _ hf)
    · refine z_lload (j := 7) C d_X12_steps_231 rfl ?_
      refine z_lload (j := 12) C d_X12_steps_233 rfl ?_
      refine z_lload (j := 0) C d_X12_steps_235 rfl ?_
      refine z_iconst (v := 0) C d_X12_steps_237 (by decide) ?_
      obtain ⟨q238, hF, hf⟩ := bd hf
      refine z_callS1 (rest := []) C [aJ v6, aJ v17, aJ s0, aI 0] k_X12_second tw_1514 ⟨by decide, by decide⟩ (Nat.le_of_ble_eq_true rfl) d_X12_steps_238 (c_X12_second C.inj hF) rfl ?_
      refine z_goto (tgt := 254) C d_X12_steps_241 (by decide) ?_
      exact z_sub [1, 2, 3, 4, 5, 6, 7, 8, 9, 10, 11, 12, 0] rfl (t_X12_steps_254 C hr  _ _ _ _ _ _ _ _ _ _ _ _ _ _ hf)
  · refine z_iload (j := 10) C d_X12_steps_212 rfl ?_
    refine z_if_eq (tgt := 222) C d_X12_steps_214 (by decide) hf (fun c214 hf => ?_) (fun c214 hf => ?_)
    · refine z_lload (j := 8) C d_X12_steps_222 rfl ?_
      refine z_goto (tgt := 254) C d_X12_steps_224 (by decide) ?_
      exact z_sub [1, 2, 3, 4, 5, 6, 7, 8, 9, 10, 11, 12, 0] rfl (t_X12_steps_254 C hr  _ _ _ _ _ _ _ _ _ _ _ _ _ _ hf)
    · refine z_lload (j := 9) C d_X12_steps_217 rfl ?_
      refine z_goto (tgt := 254) C d_X12_steps_219 (by decide) ?_
      exact z_sub [1, 2, 3, 4, 5, 6, 7, 8, 9, 10, 11, 12, 0] rfl (t_X12_steps_254 C hr  _ _ _ _ _ _ _ _ _ _ _ _ _ _ hf)
def f_X12_steps_188 (v1 : Int32) (v2 : Int32) (v3 : Int32) (v4 : Int32) (v5 : Int32) (v6 : Int64) (v8 : Int64) (v10 : Int64) (v12 : Int64) (v14 : Int32) (v15 : Int64) (s0 : Int64) (S : Mem) : Option (Int32 × Mem) := (if v8 ≤ v15 then (f_X12_steps_205  v1 v2 v3 v4 v5 v6 v10 v12 v14 v15 s0 v15 S) else (f_X12_steps_205  v1 v2 v3 v4 v5 v6 v10 v12 v14 v15 s0 v8 S))
set_option maxRecDepth 20000 in
theorem t_X12_steps_188 {X : MC} {Γ : GG} (C : CX X Γ cX12_steps 27 "TickPoolsModel" 5 133) (hr : X.2.2.2.2.2.2.2.2.1.sig.returnType = some .boolean) {q : Int32 × Mem} (v1 : Int32) (v2 : Int32) (v3 : Int32) (v4 : Int32) (v5 : Int32) (v6 : Int64) (v8 : Int64) (v10 : Int64) (v12 : Int64) (v14 : Int32) (v15 : Int64) (s0 : Int64) (S : Mem) (hf : f_X12_steps_188 v1 v2 v3 v4 v5 v6 v8 v10 v12 v14 v15 s0 S = some q) : ZZ X Γ 27 (QQ X Γ (some (aI q.1)) q.2) S 188 [(0, aR 20), (1, aI v1), (2, aI v2), (3, aI v3), (4, aI v4), (5, aI v5), (6, aJ v6), (8, aJ v8), (10, aJ v10), (12, aJ v12), (14, aI v14), (15, aJ v15)] [aJ s0] := by
  unfold f_X12_steps_188 at hf
  refine z_lstore (lv' := [(17, aJ s0), (0, aR 20), (1, aI v1), (2, aI v2), (3, aI v3), (4, aI v4), (5, aI v5), (6, aJ v6), (8, aJ v8), (10, aJ v10), (12, aJ v12), (14, aI v14), (15, aJ v15)]) C d_X12_steps_188 (by decide) rfl ?_
  refine z_lload (j := 12) C d_X12_steps_190 rfl ?_
  refine z_lload (j := 8) C d_X12_steps_192 rfl ?_
  refine z_lge (tgt := 203) C d_X12_steps_194 d_X12_steps_195 (by decide) hf (fun c194 hf => ?_) (fun c194 hf => ?_)
  · refine z_lload (j := 12) C d_X12_steps_203 rfl ?_
    exact z_sub [1, 2, 3, 4, 5, 6, 7, 9, 10, 11, 12, 0] rfl (t_X12_steps_205 C hr  _ _ _ _ _ _ _ _ _ _ _ _ _ hf)
  · refine z_lload (j := 8) C d_X12_steps_198 rfl ?_
    refine z_goto (tgt := 205) C d_X12_steps_200 (by decide) ?_
    exact z_sub [1, 2, 3, 4, 5, 6, 7, 9, 10, 11, 12, 0] rfl (t_X12_steps_205 C hr  _ _ _ _ _ _ _ _ _ _ _ _ _ hf)
def f_X12_steps_171 (v1 : Int32) (v2 : Int32) (v3 : Int32) (v4 : Int32) (v5 : Int32) (v6 : Int64) (v8 : Int64) (v10 : Int64) (v12 : Int64) (v14 : Int32) (s0 : Int64) (S : Mem) : Option (Int32 × Mem) := (if v8 ≤ s0 then (f_X12_steps_188  v1 v2 v3 v4 v5 v6 v8 v10 v12 v14 s0 v8 S) else (f_X12_steps_188  v1 v2 v3 v4 v5 v6 v8 v10 v12 v14 s0 s0 S))
set_option maxRecDepth 20000 in
theorem t_X12_steps_171 {X : MC} {Γ : GG} (C : CX X Γ cX12_steps 27 "TickPoolsModel" 5 133) (hr : X.2.2.2.2.2.2.2.2.1.sig.returnType = some .boolean) {q : Int32 × Mem} (v1 : Int32) (v2 : Int32) (v3 : Int32) (v4 : Int32) (v5 : Int32) (v6 : Int64) (v8 : Int64) (v10 : Int64) (v12 : Int64) (v14 : Int32) (s0 : Int64) (S : Mem) (hf : f_X12_steps_171 v1 v2 v3 v4 v5 v6 v8 v10 v12 v14 s0 S = some q) : ZZ X Γ 27 (QQ X Γ (some (aI q.1)) q.2) S 171 [(0, aR 20), (1, aI v1), (2, aI v2), (3, aI v3), (4, aI v4), (5, aI v5), (6, aJ v6), (8, aJ v8), (10, aJ v10), (12, aJ v12), (14, aI v14)] [aJ s0] := by
  unfold f_X12_steps_171 at hf
  refine z_lstore (lv' := [(15, aJ s0), (0, aR 20), (1, aI v1), (2, aI v2), (3, aI v3), (4, aI v4), (5, aI v5), (6, aJ v6), (8, aJ v8), (10, aJ v10), (12, aJ v12), (14, aI v14)]) C d_X12_steps_171 (by decide) rfl ?_
  refine z_lload (j := 0) C d_X12_steps_173 rfl ?_
  refine z_lload (j := 8) C d_X12_steps_175 rfl ?_
  refine z_lge (tgt := 186) C d_X12_steps_177 d_X12_steps_178 (by decide) hf (fun c177 hf => ?_) (fun c177 hf => ?_)
  · refine z_lload (j := 8) C d_X12_steps_186 rfl ?_
    exact z_sub [1, 2, 3, 4, 5, 6, 7, 8, 9, 10, 11, 0] rfl (t_X12_steps_188 C hr  _ _ _ _ _ _ _ _ _ _ _ _ _ hf)
  · refine z_lload (j := 0) C d_X12_steps_181 rfl ?_
    refine z_goto (tgt := 188) C d_X12_steps_183 (by decide) ?_
    exact z_sub [1, 2, 3, 4, 5, 6, 7, 8, 9, 10, 11, 0] rfl (t_X12_steps_188 C hr  _ _ _ _ _ _ _ _ _ _ _ _ _ hf)
def f_X12_steps_130 (v1 : Int32) (v2 : Int32) (v3 : Int32) (v4 : Int32) (v5 : Int32) (v6 : Int64) (v8 : Int64) (v10 : Int64) (v12 : Int64) (s0 : Int32) (S : Mem) : Option (Int32 × Mem) := (if s0 = 0 then (if v4 = 0 then ((f_X12_rootBy v1 v2 v10 S).bind fun q168 => (f_X12_steps_171  v1 v2 v3 v4 v5 v6 v8 v10 v12 s0 q168.1 q168.2)) else ((f_X12_rootByOut v1 v2 v10 S).bind fun q157 => (f_X12_steps_171  v1 v2 v3 v4 v5 v6 v8 v10 v12 s0 q157.1 q157.2))) else (if inb v5 41 = true then (f_X12_steps_171  v1 v2 v3 v4 v5 v6 v8 v10 v12 s0 (gL S 21 ((v5 : Int32).toNatClampNeg)) S) else none))
set_option maxRecDepth 20000 in
theorem t_X12_steps_130 {X : MC} {Γ : GG} (C : CX X Γ cX12_steps 27 "TickPoolsModel" 5 133) (hr : X.2.2.2.2.2.2.2.2.1.sig.returnType = some .boolean) {q : Int32 × Mem} (v1 : Int32) (v2 : Int32) (v3 : Int32) (v4 : Int32) (v5 : Int32) (v6 : Int64) (v8 : Int64) (v10 : Int64) (v12 : Int64) (s0 : Int32) (S : Mem) (hf : f_X12_steps_130 v1 v2 v3 v4 v5 v6 v8 v10 v12 s0 S = some q) : ZZ X Γ 27 (QQ X Γ (some (aI q.1)) q.2) S 130 [(0, aR 20), (1, aI v1), (2, aI v2), (3, aI v3), (4, aI v4), (5, aI v5), (6, aJ v6), (8, aJ v8), (10, aJ v10), (12, aJ v12)] [aI s0] := by
  unfold f_X12_steps_130 at hf
  refine z_istore (lv' := [(14, aI s0), (0, aR 20), (1, aI v1), (2, aI v2), (3, aI v3), (4, aI v4), (5, aI v5), (6, aJ v6), (8, aJ v8), (10, aJ v10), (12, aJ v12)]) C d_X12_steps_130 (by decide) rfl ?_
  refine z_iload (j := 0) C d_X12_steps_132 rfl ?_
  refine z_if_eq (tgt := 147) C d_X12_steps_134 (by decide) hf (fun c134 hf => ?_) (fun c134 hf => ?_)
  · refine z_iload (j := 5) C d_X12_steps_147 rfl ?_
    refine z_if_eq (tgt := 163) C d_X12_steps_149 (by decide) hf (fun c149 hf => ?_) (fun c149 hf => ?_)
    · refine z_aload_n (j := 1) C d_X12_steps_163 rfl ?_
      refine z_iload_n (j := 2) C d_X12_steps_164 rfl ?_
      refine z_iload_n (j := 3) C d_X12_steps_165 rfl ?_
      refine z_lload (j := 9) C d_X12_steps_166 rfl ?_
      obtain ⟨q168, hF, hf⟩ := bd hf
      refine z_callV1 (rest := []) C [aI v1, aI v2, aJ v10] rfl (by decide) rfl rfl k_X12_rootBy tw_1641 ⟨by decide, by decide⟩ (Nat.le_of_ble_eq_true rfl) d_X12_steps_168 (c_X12_rootBy C.inj hF) rfl ?_
      exact z_sub [1, 2, 3, 4, 5, 6, 7, 8, 9, 10, 0] rfl (t_X12_steps_171 C hr  _ _ _ _ _ _ _ _ _ _ _ _ hf)
    · refine z_aload_n (j := 1) C d_X12_steps_152 rfl ?_
      refine z_iload_n (j := 2) C d_X12_steps_153 rfl ?_
      refine z_iload_n (j := 3) C d_X12_steps_154 rfl ?_
      refine z_lload (j := 9) C d_X12_steps_155 rfl ?_
      obtain ⟨q157, hF, hf⟩ := bd hf
      refine z_callV1 (rest := []) C [aI v1, aI v2, aJ v10] rfl (by decide) rfl rfl k_X12_rootByOut tw_1637 ⟨by decide, by decide⟩ (Nat.le_of_ble_eq_true rfl) d_X12_steps_157 (c_X12_rootByOut C.inj hF) rfl ?_
      refine z_goto (tgt := 171) C d_X12_steps_160 (by decide) ?_
      exact z_sub [1, 2, 3, 4, 5, 6, 7, 8, 9, 10, 0] rfl (t_X12_steps_171 C hr  _ _ _ _ _ _ _ _ _ _ _ _ hf)
  · refine z_aload_n (j := 1) C d_X12_steps_137 rfl ?_
    refine zg_X12_rootOf C rfl tw_1211 d_X12_steps_138 ?_
    refine z_iload (j := 6) C d_X12_steps_141 rfl ?_
    obtain ⟨hi143_0, hf⟩ := gd hf
    refine z_lald C rfl hi143_0 d_X12_steps_143 ?_
    refine z_goto (tgt := 171) C d_X12_steps_144 (by decide) ?_
    exact z_sub [1, 2, 3, 4, 5, 6, 7, 8, 9, 10, 0] rfl (t_X12_steps_171 C hr  _ _ _ _ _ _ _ _ _ _ _ _ hf)
def f_X12_steps_115 (v1 : Int32) (v2 : Int32) (v3 : Int32) (v4 : Int32) (v5 : Int32) (v6 : Int64) (v8 : Int64) (v10 : Int64) (s0 : Int64) (S : Mem) : Option (Int32 × Mem) := (if v10 < s0 then (f_X12_steps_130  v1 v2 v3 v4 v5 v6 v8 v10 s0 0 S) else (f_X12_steps_130  v1 v2 v3 v4 v5 v6 v8 v10 s0 1 S))
set_option maxRecDepth 20000 in
theorem t_X12_steps_115 {X : MC} {Γ : GG} (C : CX X Γ cX12_steps 27 "TickPoolsModel" 5 133) (hr : X.2.2.2.2.2.2.2.2.1.sig.returnType = some .boolean) {q : Int32 × Mem} (v1 : Int32) (v2 : Int32) (v3 : Int32) (v4 : Int32) (v5 : Int32) (v6 : Int64) (v8 : Int64) (v10 : Int64) (s0 : Int64) (S : Mem) (hf : f_X12_steps_115 v1 v2 v3 v4 v5 v6 v8 v10 s0 S = some q) : ZZ X Γ 27 (QQ X Γ (some (aI q.1)) q.2) S 115 [(0, aR 20), (1, aI v1), (2, aI v2), (3, aI v3), (4, aI v4), (5, aI v5), (6, aJ v6), (8, aJ v8), (10, aJ v10)] [aJ s0] := by
  unfold f_X12_steps_115 at hf
  refine z_lstore (lv' := [(12, aJ s0), (0, aR 20), (1, aI v1), (2, aI v2), (3, aI v3), (4, aI v4), (5, aI v5), (6, aJ v6), (8, aJ v8), (10, aJ v10)]) C d_X12_steps_115 (by decide) rfl ?_
  refine z_lload (j := 9) C d_X12_steps_117 rfl ?_
  refine z_lload (j := 0) C d_X12_steps_119 rfl ?_
  refine z_llt (tgt := 129) C d_X12_steps_121 d_X12_steps_122 (by decide) hf (fun c121 hf => ?_) (fun c121 hf => ?_)
  · refine z_iconst (v := 0) C d_X12_steps_129 (by decide) ?_
    exact z_sub [1, 2, 3, 4, 5, 6, 7, 8, 9, 0] rfl (t_X12_steps_130 C hr  _ _ _ _ _ _ _ _ _ _ _ hf)
  · refine z_iconst (v := 1) C d_X12_steps_125 (by decide) ?_
    refine z_goto (tgt := 130) C d_X12_steps_126 (by decide) ?_
    exact z_sub [1, 2, 3, 4, 5, 6, 7, 8, 9, 0] rfl (t_X12_steps_130 C hr  _ _ _ _ _ _ _ _ _ _ _ hf)
def f_X12_steps_60 (v1 : Int32) (v2 : Int32) (v3 : Int32) (v4 : Int32) (v5 : Int32) (v6 : Int64) (v8 : Int64) (s0 : Int64) (S : Mem) : Option (Int32 × Mem) := (if v4 = 0 then ((f_X12_wantedTo v1 v2 v5 S).bind fun q72 => (f_X12_steps_115  v1 v2 v3 v4 v5 v6 v8 s0 q72.1 q72.2)) else (if v2 = 0 then (if inb v5 41 = true then ((f_X12_second v6 (gL S 21 ((v5 : Int32).toNatClampNeg)) v8 0 S).bind fun q94 => (f_X12_steps_115  v1 v2 v3 v4 v5 v6 v8 s0 q94.1 q94.2)) else none) else (if inb v5 41 = true then ((f_X12_first v6 v8 (gL S 21 ((v5 : Int32).toNatClampNeg)) 0 S).bind fun q112 => (f_X12_steps_115  v1 v2 v3 v4 v5 v6 v8 s0 q112.1 q112.2)) else none)))
set_option maxRecDepth 20000 in
theorem t_X12_steps_60 {X : MC} {Γ : GG} (C : CX X Γ cX12_steps 27 "TickPoolsModel" 5 133) (hr : X.2.2.2.2.2.2.2.2.1.sig.returnType = some .boolean) {q : Int32 × Mem} (v1 : Int32) (v2 : Int32) (v3 : Int32) (v4 : Int32) (v5 : Int32) (v6 : Int64) (v8 : Int64) (s0 : Int64) (S : Mem) (hf : f_X12_steps_60 v1 v2 v3 v4 v5 v6 v8 s0 S = some q) : ZZ X Γ 27 (QQ X Γ (some (aI q.1)) q.2) S 60 [(0, aR 20), (1, aI v1), (2, aI v2), (3, aI v3), (4, aI v4), (5, aI v5), (6, aJ v6), (8, aJ v8)] [aJ s0] := by
  unfold f_X12_steps_60 at hf
  refine z_lstore (lv' := [(10, aJ s0), (0, aR 20), (1, aI v1), (2, aI v2), (3, aI v3), (4, aI v4), (5, aI v5), (6, aJ v6), (8, aJ v8)]) C d_X12_steps_60 (by decide) rfl ?_
  refine z_iload (j := 5) C d_X12_steps_62 rfl ?_
  refine z_if_ne (tgt := 78) C d_X12_steps_64 (by decide) hf (fun c64 hf => ?_) (fun c64 hf => ?_)
  · refine z_iload_n (j := 3) C d_X12_steps_78 rfl ?_
    refine z_if_ne (tgt := 100) C d_X12_steps_79 (by decide) hf (fun c79 hf => ?_) (fun c79 hf => ?_)
    · refine z_lload (j := 7) C d_X12_steps_100 rfl ?_
      refine z_lload (j := 8) C d_X12_steps_102 rfl ?_
      refine z_aload_n (j := 1) C d_X12_steps_104 rfl ?_
      refine zg_X12_rootOf C rfl tw_1211 d_X12_steps_105 ?_
      refine z_iload (j := 6) C d_X12_steps_108 rfl ?_
      obtain ⟨hi110_0, hf⟩ := gd hf
      refine z_lald C rfl hi110_0 d_X12_steps_110 ?_
      refine z_iconst (v := 0) C d_X12_steps_111 (by decide) ?_
      obtain ⟨q112, hF, hf⟩ := bd hf
      refine z_callS1 (rest := []) C [aJ v6, aJ v8, aJ (gL S 21 ((v5 : Int32).toNatClampNeg)), aI 0] k_X12_first tw_1507 ⟨by decide, by decide⟩ (Nat.le_of_ble_eq_true rfl) d_X12_steps_112 (c_X12_first C.inj hF) rfl ?_
      exact z_sub [1, 2, 3, 4, 5, 6, 7, 8, 0] rfl (t_X12_steps_115 C hr  _ _ _ _ _ _ _ _ _ _ hf)
    · refine z_lload (j := 7) C d_X12_steps_82 rfl ?_
      refine z_aload_n (j := 1) C d_X12_steps_84 rfl ?_
      refine zg_X12_rootOf C rfl tw_1211 d_X12_steps_85 ?_
      refine z_iload (j := 6) C d_X12_steps_88 rfl ?_
      obtain ⟨hi90_0, hf⟩ := gd hf
      refine z_lald C rfl hi90_0 d_X12_steps_90 ?_
      refine z_lload (j := 8) C d_X12_steps_91 rfl ?_
      refine z_iconst (v := 0) C d_X12_steps_93 (by decide) ?_
      obtain ⟨q94, hF, hf⟩ := bd hf
      refine z_callS1 (rest := []) C [aJ v6, aJ (gL S 21 ((v5 : Int32).toNatClampNeg)), aJ v8, aI 0] k_X12_second tw_1514 ⟨by decide, by decide⟩ (Nat.le_of_ble_eq_true rfl) d_X12_steps_94 (c_X12_second C.inj hF) rfl ?_
      refine z_goto (tgt := 115) C d_X12_steps_97 (by decide) ?_
      exact z_sub [1, 2, 3, 4, 5, 6, 7, 8, 0] rfl (t_X12_steps_115 C hr  _ _ _ _ _ _ _ _ _ _ hf)
  · refine z_aload_n (j := 1) C d_X12_steps_67 rfl ?_
    refine z_iload_n (j := 2) C d_X12_steps_68 rfl ?_
    refine z_iload_n (j := 3) C d_X12_steps_69 rfl ?_
    refine z_iload (j := 6) C d_X12_steps_70 rfl ?_
    obtain ⟨q72, hF, hf⟩ := bd hf
    refine z_callV1 (rest := []) C [aI v1, aI v2, aI v5] rfl (by decide) rfl rfl k_X12_wantedTo tw_1633 ⟨by decide, by decide⟩ (Nat.le_of_ble_eq_true rfl) d_X12_steps_72 (c_X12_wantedTo C.inj hF) rfl ?_
    refine z_goto (tgt := 115) C d_X12_steps_75 (by decide) ?_
    exact z_sub [1, 2, 3, 4, 5, 6, 7, 8, 0] rfl (t_X12_steps_115 C hr  _ _ _ _ _ _ _ _ _ _ hf)
/-- TickPoolsModel.steps(IIIZ)Z -/
def f_X12_steps (p1 : Int32) (p2 : Int32) (p3 : Int32) (p4 : Int32) (S : Mem) : Option (Int32 × Mem) := ((f_X12_aimOf p1 p2 p3 S).bind fun q4 => ((f_X12_zoneNow p1 q4.2).bind fun q13 => ((f_X12_depthOf p1 q13.1 q13.2).bind fun q16 => ((f_X12_ofPool p1 0 q16.2).bind fun q24 => (if p4 = 0 then ((f_X12_feeOf p1 q24.2).bind fun q50 => (f_X12_steps_60  p1 p2 p3 p4 q4.1 q16.1 q24.1 (((gL q24.2 20 29) * (((1000 - q50.1) : Int32).toInt64)) / 1000) q50.2)) else (f_X12_steps_60  p1 p2 p3 p4 q4.1 q16.1 q24.1 (gL q24.2 20 29) q24.2))))))
set_option maxRecDepth 20000 in
theorem c_X12_steps {l : Launch} {Γ : GG} (hI : Inj Γ) {p1 : Int32} {p2 : Int32} {p3 : Int32} {p4 : Int32} {S : Mem} {q : Int32 × Mem} (hf : f_X12_steps p1 p2 p3 p4 S = some q) : MM l Γ yX12_steps cX12_steps 27 (some .boolean) 5 133 [aR 20, aI p1, aI p2, aI p3, aI p4] S (some (aI q.1)) q.2 := by
  refine met_of hI "TickPoolsModel" rfl (by decide +kernel) (Nat.le_of_ble_eq_true rfl) (fun X hX C hr => ?_)
  unfold f_X12_steps at hf
  show ZZ X Γ 27 _ S 0 [(0, aR 20), (1, aI p1), (2, aI p2), (3, aI p3), (4, aI p4)] []
  refine z_aload_n (j := 0) C d_X12_steps_0 rfl ?_
  refine z_iload_n (j := 1) C d_X12_steps_1 rfl ?_
  refine z_iload_n (j := 2) C d_X12_steps_2 rfl ?_
  refine z_iload_n (j := 3) C d_X12_steps_3 rfl ?_
  obtain ⟨q4, hF, hf⟩ := bd hf
  refine z_callV1 (rest := []) C [aI p1, aI p2, aI p3] rfl (by decide) rfl rfl k_X12_aimOf tw_1616 ⟨by decide, by decide⟩ (Nat.le_of_ble_eq_true rfl) d_X12_steps_4 (c_X12_aimOf C.inj hF) rfl ?_
  refine z_istore (lv' := [(5, aI q4.1), (0, aR 20), (1, aI p1), (2, aI p2), (3, aI p3), (4, aI p4)]) C d_X12_steps_7 (by decide) rfl ?_
  refine z_aload_n (j := 1) C d_X12_steps_9 rfl ?_
  refine z_iload_n (j := 2) C d_X12_steps_10 rfl ?_
  refine z_aload_n (j := 1) C d_X12_steps_11 rfl ?_
  refine z_iload_n (j := 2) C d_X12_steps_12 rfl ?_
  obtain ⟨q13, hF, hf⟩ := bd hf
  refine z_callV1 (rest := [aI p1, aR 20]) C [aI p1] rfl (by decide) rfl rfl k_X12_zoneNow tw_1499 ⟨by decide, by decide⟩ (Nat.le_of_ble_eq_true rfl) d_X12_steps_13 (c_X12_zoneNow C.inj hF) rfl ?_
  obtain ⟨q16, hF, hf⟩ := bd hf
  refine z_callV1 (rest := []) C [aI p1, aI q13.1] rfl (by decide) rfl rfl k_X12_depthOf tw_1620 ⟨by decide, by decide⟩ (Nat.le_of_ble_eq_true rfl) d_X12_steps_16 (c_X12_depthOf C.inj hF) rfl ?_
  refine z_lstore (lv' := [(6, aJ q16.1), (5, aI q4.1), (0, aR 20), (1, aI p1), (2, aI p2), (3, aI p3), (4, aI p4)]) C d_X12_steps_19 (by decide) rfl ?_
  refine z_aload_n (j := 2) C d_X12_steps_21 rfl ?_
  refine z_iload_n (j := 3) C d_X12_steps_22 rfl ?_
  refine z_iconst (v := 0) C d_X12_steps_23 (by decide) ?_
  obtain ⟨q24, hF, hf⟩ := bd hf
  refine z_callV1 (rest := []) C [aI p1, aI 0] rfl (by decide) rfl rfl k_X12_ofPool tw_1503 ⟨by decide, by decide⟩ (Nat.le_of_ble_eq_true rfl) d_X12_steps_24 (c_X12_ofPool C.inj hF) rfl ?_
  refine z_lstore (lv' := [(8, aJ q24.1), (6, aJ q16.1), (5, aI q4.1), (0, aR 20), (1, aI p1), (2, aI p2), (3, aI p3), (4, aI p4)]) C d_X12_steps_27 (by decide) rfl ?_
  refine z_iload (j := 7) C d_X12_steps_29 rfl ?_
  refine z_if_eq (tgt := 41) C d_X12_steps_31 (by decide) hf (fun c31 hf => ?_) (fun c31 hf => ?_)
  · refine z_aload_n (j := 3) C d_X12_steps_41 rfl ?_
    refine zg_X12_left C rfl tw_1240 d_X12_steps_42 ?_
    refine z_sipush (v := 1000) C d_X12_steps_45 (by decide) ?_
    refine z_aload_n (j := 3) C d_X12_steps_48 rfl ?_
    refine z_iload_n (j := 4) C d_X12_steps_49 rfl ?_
    obtain ⟨q50, hF, hf⟩ := bd hf
    refine z_callV1 (rest := [aI 1000, aJ (gL q24.2 20 29)]) C [aI p1] rfl (by decide) rfl rfl k_X12_feeOf tw_1628 ⟨by decide, by decide⟩ (Nat.le_of_ble_eq_true rfl) d_X12_steps_50 (c_X12_feeOf C.inj hF) rfl ?_
    refine z_isub C d_X12_steps_53 ?_
    refine z_i2l C d_X12_steps_54 ?_
    refine z_lmul C d_X12_steps_55 ?_
    refine z_ldc2 (v := 1000) C tw_1632 d_X12_steps_56 ?_
    refine z_ldiv C d_X12_steps_59 (by decide) ?_
    exact z_sub [3, 4, 5, 6, 7, 2, 1, 0] rfl (t_X12_steps_60 C hr  _ _ _ _ _ _ _ _ _ hf)
  · refine z_aload_n (j := 3) C d_X12_steps_34 rfl ?_
    refine zg_X12_left C rfl tw_1240 d_X12_steps_35 ?_
    refine z_goto (tgt := 60) C d_X12_steps_38 (by decide) ?_
    exact z_sub [3, 4, 5, 6, 7, 2, 1, 0] rfl (t_X12_steps_60 C hr  _ _ _ _ _ _ _ _ _ hf)
