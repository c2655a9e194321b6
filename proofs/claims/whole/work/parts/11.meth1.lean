theorem d_X10_pour_0 : decode cX10_pour 0 = .ok (.aload_n 0, 1) := by decide +kernel
theorem d_X10_pour_1 : decode cX10_pour 1 = .ok (.aload_n 1, 1) := by decide +kernel
theorem d_X10_pour_2 : decode cX10_pour 2 = .ok (.iload_n 3, 1) := by decide +kernel
theorem d_X10_pour_3 : decode cX10_pour 3 = .ok (.iload 4, 2) := by decide +kernel
theorem d_X10_pour_5 : decode cX10_pour 5 = .ok (.lload 5, 2) := by decide +kernel
theorem d_X10_pour_7 : decode cX10_pour 7 = .ok (.iload 8, 2) := by decide +kernel
theorem d_X10_pour_9 : decode cX10_pour 9 = .ok (.invokevirtual 9, 3) := by decide +kernel
theorem d_X10_pour_12 : decode cX10_pour 12 = .ok (.ifCond .ne 4, 3) := by decide +kernel
theorem d_X10_pour_15 : decode cX10_pour 15 = .ok (.return_, 1) := by decide +kernel
theorem d_X10_pour_16 : decode cX10_pour 16 = .ok (.aload_n 0, 1) := by decide +kernel
theorem d_X10_pour_17 : decode cX10_pour 17 = .ok (.aload_n 0, 1) := by decide +kernel
theorem d_X10_pour_18 : decode cX10_pour 18 = .ok (.getfield 15, 3) := by decide +kernel
theorem d_X10_pour_21 : decode cX10_pour 21 = .ok (.ifCond .ne 20, 3) := by decide +kernel
theorem d_X10_pour_24 : decode cX10_pour 24 = .ok (.iload 7, 2) := by decide +kernel
theorem d_X10_pour_26 : decode cX10_pour 26 = .ok (.aload_n 0, 1) := by decide +kernel
theorem d_X10_pour_27 : decode cX10_pour 27 = .ok (.getfield 19, 3) := by decide +kernel
theorem d_X10_pour_30 : decode cX10_pour 30 = .ok (.if_icmp .le 7, 3) := by decide +kernel
theorem d_X10_pour_33 : decode cX10_pour 33 = .ok (.iconst 1, 1) := by decide +kernel
theorem d_X10_pour_34 : decode cX10_pour 34 = .ok (.goto 21, 3) := by decide +kernel
theorem d_X10_pour_37 : decode cX10_pour 37 = .ok (.iconst 0, 1) := by decide +kernel
theorem d_X10_pour_38 : decode cX10_pour 38 = .ok (.goto 17, 3) := by decide +kernel
theorem d_X10_pour_41 : decode cX10_pour 41 = .ok (.iload 7, 2) := by decide +kernel
theorem d_X10_pour_43 : decode cX10_pour 43 = .ok (.aload_n 0, 1) := by decide +kernel
theorem d_X10_pour_44 : decode cX10_pour 44 = .ok (.getfield 19, 3) := by decide +kernel
theorem d_X10_pour_47 : decode cX10_pour 47 = .ok (.if_icmp .gt 7, 3) := by decide +kernel
theorem d_X10_pour_50 : decode cX10_pour 50 = .ok (.iconst 1, 1) := by decide +kernel
theorem d_X10_pour_51 : decode cX10_pour 51 = .ok (.goto 4, 3) := by decide +kernel
theorem d_X10_pour_54 : decode cX10_pour 54 = .ok (.iconst 0, 1) := by decide +kernel
theorem d_X10_pour_55 : decode cX10_pour 55 = .ok (.putfield 22, 3) := by decide +kernel
theorem d_X10_pour_58 : decode cX10_pour 58 = .ok (.iconst 0, 1) := by decide +kernel
theorem d_X10_pour_59 : decode cX10_pour 59 = .ok (.istore 9, 2) := by decide +kernel
theorem d_X10_pour_61 : decode cX10_pour 61 = .ok (.iload 9, 2) := by decide +kernel
theorem d_X10_pour_63 : decode cX10_pour 63 = .ok (.sipush 1000, 3) := by decide +kernel
theorem d_X10_pour_66 : decode cX10_pour 66 = .ok (.if_icmp .ge 65, 3) := by decide +kernel
theorem d_X10_pour_69 : decode cX10_pour 69 = .ok (.aload_n 0, 1) := by decide +kernel
theorem d_X10_pour_70 : decode cX10_pour 70 = .ok (.getfield 26, 3) := by decide +kernel
theorem d_X10_pour_73 : decode cX10_pour 73 = .ok (.lconst 0, 1) := by decide +kernel
theorem d_X10_pour_74 : decode cX10_pour 74 = .ok (.lcmp, 1) := by decide +kernel
theorem d_X10_pour_75 : decode cX10_pour 75 = .ok (.ifCond .le 56, 3) := by decide +kernel
theorem d_X10_pour_78 : decode cX10_pour 78 = .ok (.aload_n 0, 1) := by decide +kernel
theorem d_X10_pour_79 : decode cX10_pour 79 = .ok (.getfield 22, 3) := by decide +kernel
theorem d_X10_pour_82 : decode cX10_pour 82 = .ok (.ifCond .ne 49, 3) := by decide +kernel
theorem d_X10_pour_85 : decode cX10_pour 85 = .ok (.aload_n 0, 1) := by decide +kernel
theorem d_X10_pour_86 : decode cX10_pour 86 = .ok (.iload 7, 2) := by decide +kernel
theorem d_X10_pour_88 : decode cX10_pour 88 = .ok (.invokevirtual 30, 3) := by decide +kernel
theorem d_X10_pour_91 : decode cX10_pour 91 = .ok (.aload_n 0, 1) := by decide +kernel
theorem d_X10_pour_92 : decode cX10_pour 92 = .ok (.getfield 34, 3) := by decide +kernel
theorem d_X10_pour_95 : decode cX10_pour 95 = .ok (.ifCond .eq 30, 3) := by decide +kernel
theorem d_X10_pour_98 : decode cX10_pour 98 = .ok (.aload_n 0, 1) := by decide +kernel
theorem d_X10_pour_99 : decode cX10_pour 99 = .ok (.getfield 37, 3) := by decide +kernel
theorem d_X10_pour_102 : decode cX10_pour 102 = .ok (.iconst (-1), 1) := by decide +kernel
theorem d_X10_pour_103 : decode cX10_pour 103 = .ok (.if_icmp .eq 22, 3) := by decide +kernel
theorem d_X10_pour_106 : decode cX10_pour 106 = .ok (.aload_n 0, 1) := by decide +kernel
theorem d_X10_pour_107 : decode cX10_pour 107 = .ok (.getfield 40, 3) := by decide +kernel
theorem d_X10_pour_110 : decode cX10_pour 110 = .ok (.aload_n 0, 1) := by decide +kernel
theorem d_X10_pour_111 : decode cX10_pour 111 = .ok (.getfield 44, 3) := by decide +kernel
theorem d_X10_pour_114 : decode cX10_pour 114 = .ok (.aload_n 0, 1) := by decide +kernel
theorem d_X10_pour_115 : decode cX10_pour 115 = .ok (.getfield 15, 3) := by decide +kernel
theorem d_X10_pour_118 : decode cX10_pour 118 = .ok (.aload_n 0, 1) := by decide +kernel
theorem d_X10_pour_119 : decode cX10_pour 119 = .ok (.getfield 37, 3) := by decide +kernel
theorem d_X10_pour_122 : decode cX10_pour 122 = .ok (.invokevirtual 47, 3) := by decide +kernel
theorem d_X10_pour_125 : decode cX10_pour 125 = .ok (.iinc 9 1, 3) := by decide +kernel
theorem d_X10_pour_128 : decode cX10_pour 128 = .ok (.goto (-67), 3) := by decide +kernel
theorem d_X10_pour_131 : decode cX10_pour 131 = .ok (.aload_n 0, 1) := by decide +kernel
theorem d_X10_pour_132 : decode cX10_pour 132 = .ok (.iload_n 2, 1) := by decide +kernel
theorem d_X10_pour_133 : decode cX10_pour 133 = .ok (.invokevirtual 53, 3) := by decide +kernel
theorem d_X10_pour_136 : decode cX10_pour 136 = .ok (.return_, 1) := by decide +kernel
def f_X10_pour_125 (k61 : Int32 → Int32 → Int32 → Mem → Option (Unit × Mem)) (v2 : Int32) (v7 : Int32) (v9 : Int32) (S : Mem) : Option (Unit × Mem) := (k61 v2 v7 (v9 + 1) S)
set_option maxRecDepth 20000 in
theorem t_X10_pour_125 {X : MC} {Γ : GG} (C : CX X Γ cX10_pour 10 "TickPools$Trade" 4 119) (hr : X.2.2.2.2.2.2.2.2.1.sig.returnType = none) {k61 : Int32 → Int32 → Int32 → Mem → Option (Unit × Mem)} {q : Unit × Mem} (hk61 : ∀ (v2 : Int32) (v7 : Int32) (v9 : Int32) (S : Mem), k61 v2 v7 v9 S = some q → ZZ X Γ 10 (QQ X Γ none q.2) S 61 [(0, aR 4), (2, aI v2), (7, aI v7), (9, aI v9)] []) (v2 : Int32) (v7 : Int32) (v9 : Int32) (S : Mem) (hf : f_X10_pour_125 k61 v2 v7 v9 S = some q) : ZZ X Γ 10 (QQ X Γ none q.2) S 125 [(0, aR 4), (2, aI v2), (7, aI v7), (9, aI v9)] [] := by
  unfold f_X10_pour_125 at hf
  refine z_iinc (j := 3) (v := (v9 + 1)) (lv' := [(9, aI (v9 + 1)), (0, aR 4), (2, aI v2), (7, aI v7)]) C d_X10_pour_125 rfl rfl (by decide) rfl ?_
  refine z_goto (tgt := 61) C d_X10_pour_128 (by decide) ?_
  exact z_sub [1, 2, 3, 0] rfl (hk61 _ _ _ _ hf)
def f_X10_pour_131 (v2 : Int32) (S : Mem) : Option (Unit × Mem) := ((f_X10_finish v2 S).bind fun q133 => (some ((), q133.2)))
set_option maxRecDepth 20000 in
theorem t_X10_pour_131 {X : MC} {Γ : GG} (C : CX X Γ cX10_pour 10 "TickPools$Trade" 4 119) (hr : X.2.2.2.2.2.2.2.2.1.sig.returnType = none) {q : Unit × Mem} (v2 : Int32) (S : Mem) (hf : f_X10_pour_131 v2 S = some q) : ZZ X Γ 10 (QQ X Γ none q.2) S 131 [(0, aR 4), (2, aI v2)] [] := by
  unfold f_X10_pour_131 at hf
  refine z_aload_n (j := 0) C d_X10_pour_131 rfl ?_
  refine z_iload_n (j := 1) C d_X10_pour_132 rfl ?_
  obtain ⟨q133, hF, hf⟩ := bd hf
  refine z_callV0 (rest := []) C [aI v2] rfl (by decide) rfl rfl k_X10_finish tw_926 ⟨by decide, by decide⟩ (Nat.le_of_ble_eq_true rfl) d_X10_pour_133 (c_X10_finish C.inj hF) rfl ?_
  exact r_v C hr d_X10_pour_136 hf
def f_X10_pour_61B (k61 : Int32 → Int32 → Int32 → Mem → Option (Unit × Mem)) (v2 : Int32) (v7 : Int32) (v9 : Int32) (S : Mem) : Option (Unit × Mem) := (if 1000 ≤ v9 then (f_X10_pour_131  v2 S) else (if (gL S 4 10) ≤ 0 then (f_X10_pour_131  v2 S) else (if (gI S 4 6) = 0 then ((f_X10_pourStep v7 S).bind fun q88 => (if (gI q88.2 4 4) = 0 then (f_X10_pour_125 k61 v2 v7 v9 q88.2) else (if (gI q88.2 4 7) = (-1) then (f_X10_pour_125 k61 v2 v7 v9 q88.2) else (if kd (gR q88.2 4 0) = (1, 9) then ((f_X2_dropAt (gR q88.2 4 0) (gI q88.2 4 2) (gI q88.2 4 3) (gI q88.2 4 7) q88.2).bind fun q122 => (f_X10_pour_125 k61 v2 v7 v9 q122.2)) else none)))) else (f_X10_pour_131  v2 S))))
set_option maxRecDepth 20000 in
theorem t_X10_pour_61B {X : MC} {Γ : GG} (C : CX X Γ cX10_pour 10 "TickPools$Trade" 4 119) (hr : X.2.2.2.2.2.2.2.2.1.sig.returnType = none) {k61 : Int32 → Int32 → Int32 → Mem → Option (Unit × Mem)} {q : Unit × Mem} (hk61 : ∀ (v2 : Int32) (v7 : Int32) (v9 : Int32) (S : Mem), k61 v2 v7 v9 S = some q → ZZ X Γ 10 (QQ X Γ none q.2) S 61 [(0, aR 4), (2, aI v2), (7, aI v7), (9, aI v9)] []) (v2 : Int32) (v7 : Int32) (v9 : Int32) (S : Mem) (hf : f_X10_pour_61B k61 v2 v7 v9 S = some q) : ZZ X Γ 10 (QQ X Γ none q.2) S 61 [(0, aR 4), (2, aI v2), (7, aI v7), (9, aI v9)] [] := by
  unfold f_X10_pour_61B at hf
  refine z_iload (j := 3) C d_X10_pour_61 rfl ?_
  refine z_sipush (v := 1000) C d_X10_pour_63 (by decide) ?_
  refine z_icmp_ge (tgt := 131) C d_X10_pour_66 (by decide) hf (fun c66 hf => ?_) (fun c66 hf => ?_)
  · exact z_sub [0, 1] rfl (t_X10_pour_131 C hr  _ _ hf)
  · refine z_aload_n (j := 0) C d_X10_pour_69 rfl ?_
    refine zg_X10_left C rfl tw_248 d_X10_pour_70 ?_
    refine z_lconst (v := 0) C d_X10_pour_73 (by decide) ?_
    refine z_lle (tgt := 131) C d_X10_pour_74 d_X10_pour_75 (by decide) hf (fun c74 hf => ?_) (fun c74 hf => ?_)
    · exact z_sub [0, 1] rfl (t_X10_pour_131 C hr  _ _ hf)
    · refine z_aload_n (j := 0) C d_X10_pour_78 rfl ?_
      refine zg_X10_atEnd C rfl tw_242 d_X10_pour_79 ?_
      refine z_if_ne (tgt := 131) C d_X10_pour_82 (by decide) hf (fun c82 hf => ?_) (fun c82 hf => ?_)
      · exact z_sub [0, 1] rfl (t_X10_pour_131 C hr  _ _ hf)
      · refine z_aload_n (j := 0) C d_X10_pour_85 rfl ?_
        refine z_iload (j := 2) C d_X10_pour_86 rfl ?_
        obtain ⟨q88, hF, hf⟩ := bd hf
        refine z_callV0 (rest := []) C [aI v7] rfl (by decide) rfl rfl k_X10_pourStep tw_854 ⟨by decide, by decide⟩ (Nat.le_of_ble_eq_true rfl) d_X10_pour_88 (c_X10_pourStep C.inj hF) rfl ?_
        refine z_aload_n (j := 0) C d_X10_pour_91 rfl ?_
        refine zg_X10_real C rfl tw_240 d_X10_pour_92 ?_
        refine z_if_eq (tgt := 125) C d_X10_pour_95 (by decide) hf (fun c95 hf => ?_) (fun c95 hf => ?_)
        · exact z_sub [0, 1, 2, 3] rfl (t_X10_pour_125 C hr hk61 _ _ _ _ hf)
        · refine z_aload_n (j := 0) C d_X10_pour_98 rfl ?_
          refine zg_X10_crossedTick C rfl tw_243 d_X10_pour_99 ?_
          refine z_iconst (v := (-1)) C d_X10_pour_102 (by decide) ?_
          refine z_icmp_eq (tgt := 125) C d_X10_pour_103 (by decide) hf (fun c103 hf => ?_) (fun c103 hf => ?_)
          · exact z_sub [0, 1, 2, 3] rfl (t_X10_pour_125 C hr hk61 _ _ _ _ hf)
          · refine z_aload_n (j := 0) C d_X10_pour_106 rfl ?_
            refine zg_X10_market C rfl tw_236 d_X10_pour_107 ?_
            refine z_aload_n (j := 0) C d_X10_pour_110 rfl ?_
            refine zg_X10_poolNumber C rfl tw_238 d_X10_pour_111 ?_
            refine z_aload_n (j := 0) C d_X10_pour_114 rfl ?_
            refine zg_X10_side C rfl tw_239 d_X10_pour_115 ?_
            refine z_aload_n (j := 0) C d_X10_pour_118 rfl ?_
            refine zg_X10_crossedTick C rfl tw_243 d_X10_pour_119 ?_
            obtain ⟨hg122_0, hf⟩ := gd hf
            obtain ⟨q122, hF, hf⟩ := bd hf
            refine z_callV0 (rest := []) C [aI (gI q88.2 4 2), aI (gI q88.2 4 3), aI (gI q88.2 4 7)] hg122_0 (by decide) rfl rfl k_X2_dropAt tw_894 ⟨by decide, by decide⟩ (Nat.le_of_ble_eq_true rfl) d_X10_pour_122 (c_X2_dropAt C.inj hF) rfl ?_
            exact z_sub [0, 1, 2, 3] rfl (t_X10_pour_125 C hr hk61 _ _ _ _ hf)
def f_X10_pour_61 : Nat → Int32 → Int32 → Int32 → Mem → Option (Unit × Mem)
  | 0 => fun _ _ _ _ => none
  | n + 1 => f_X10_pour_61B (f_X10_pour_61 n)
theorem t_X10_pour_61 {X : MC} {Γ : GG} (C : CX X Γ cX10_pour 10 "TickPools$Trade" 4 119) (hr : X.2.2.2.2.2.2.2.2.1.sig.returnType = none) {q : Unit × Mem} : ∀ (n : Nat) (v2 : Int32) (v7 : Int32) (v9 : Int32) (S : Mem) (hf : f_X10_pour_61 n v2 v7 v9 S = some q), ZZ X Γ 10 (QQ X Γ none q.2) S 61 [(0, aR 4), (2, aI v2), (7, aI v7), (9, aI v9)] []
  | 0, _, _, _, _, hf => nomatch (show (none : Option (Unit × Mem)) = some q from hf)
  | n + 1, v2, v7, v9, S, hf => t_X10_pour_61B C hr (t_X10_pour_61 C hr n) v2 v7 v9 S hf
def f_X10_pour_55 (v2 : Int32) (v7 : Int32) (s0 : Int32) (S : Mem) : Option (Unit × Mem) := (if isB s0 = true then (f_X10_pour_61  100000 v2 v7 0 (sI S 4 6 s0)) else none)
set_option maxRecDepth 20000 in
theorem t_X10_pour_55 {X : MC} {Γ : GG} (C : CX X Γ cX10_pour 10 "TickPools$Trade" 4 119) (hr : X.2.2.2.2.2.2.2.2.1.sig.returnType = none) {q : Unit × Mem} (v2 : Int32) (v7 : Int32) (s0 : Int32) (S : Mem) (hf : f_X10_pour_55 v2 v7 s0 S = some q) : ZZ X Γ 10 (QQ X Γ none q.2) S 55 [(0, aR 4), (2, aI v2), (7, aI v7)] [aI s0, aR 4] := by
  unfold f_X10_pour_55 at hf
  obtain ⟨hb55_0, hf⟩ := gd hf
  refine zp_X10_atEnd C rfl hb55_0 tw_242 d_X10_pour_55 ?_
  refine z_iconst (v := 0) C d_X10_pour_58 (by decide) ?_
  refine z_istore (lv' := [(9, aI 0), (0, aR 4), (2, aI v2), (7, aI v7)]) C d_X10_pour_59 (by decide) rfl ?_
  exact z_sub [1, 2, 3, 0] rfl (t_X10_pour_61 C hr  100000 _ _ _ _ hf)
/-- TickPools$Trade.pour(LTickPools$Market;IIIJIZ)V -/
def f_X10_pour (p1 : Nat) (p2 : Int32) (p3 : Int32) (p4 : Int32) (p5 : Int64) (p7 : Int32) (p8 : Int32) (S : Mem) : Option (Unit × Mem) := ((f_X10_start p1 p3 p4 p5 p8 S).bind fun q9 => (if q9.1 = 0 then (some ((), q9.2)) else (if (gI q9.2 4 3) = 0 then (if p7 ≤ (gI q9.2 4 8) then (f_X10_pour_55  p2 p7 0 q9.2) else (f_X10_pour_55  p2 p7 1 q9.2)) else (if (gI q9.2 4 8) < p7 then (f_X10_pour_55  p2 p7 0 q9.2) else (f_X10_pour_55  p2 p7 1 q9.2)))))
set_option maxRecDepth 20000 in
theorem c_X10_pour {l : Launch} {Γ : GG} (hI : Inj Γ) {p1 : Nat} {p2 : Int32} {p3 : Int32} {p4 : Int32} {p5 : Int64} {p7 : Int32} {p8 : Int32} {S : Mem} {q : Unit × Mem} (hf : f_X10_pour p1 p2 p3 p4 p5 p7 p8 S = some q) : MM l Γ yX10_pour cX10_pour 10 (none) 4 119 [aR 4, aR p1, aI p2, aI p3, aI p4, aJ p5, aI p7, aI p8] S none q.2 := by
  refine met_of hI "TickPools$Trade" rfl (by decide +kernel) (Nat.le_of_ble_eq_true rfl) (fun X hX C hr => ?_)
  unfold f_X10_pour at hf
  show ZZ X Γ 10 _ S 0 [(0, aR 4), (1, aR p1), (2, aI p2), (3, aI p3), (4, aI p4), (5, aJ p5), (7, aI p7), (8, aI p8)] []
  refine z_aload_n (j := 0) C d_X10_pour_0 rfl ?_
  refine z_aload_n (j := 1) C d_X10_pour_1 rfl ?_
  refine z_iload_n (j := 3) C d_X10_pour_2 rfl ?_
  refine z_iload (j := 4) C d_X10_pour_3 rfl ?_
  refine z_lload (j := 5) C d_X10_pour_5 rfl ?_
  refine z_iload (j := 7) C d_X10_pour_7 rfl ?_
  obtain ⟨q9, hF, hf⟩ := bd hf
  refine z_callV1 (rest := []) C [aR p1, aI p3, aI p4, aJ p5, aI p8] rfl (by decide) rfl rfl k_X10_start tw_840 ⟨by decide, by decide⟩ (Nat.le_of_ble_eq_true rfl) d_X10_pour_9 (c_X10_start C.inj hF) rfl ?_
  refine z_if_ne (tgt := 16) C d_X10_pour_12 (by decide) hf (fun c12 hf => ?_) (fun c12 hf => ?_)
  · refine z_aload_n (j := 0) C d_X10_pour_16 rfl ?_
    refine z_aload_n (j := 0) C d_X10_pour_17 rfl ?_
    refine zg_X10_side C rfl tw_239 d_X10_pour_18 ?_
    refine z_if_ne (tgt := 41) C d_X10_pour_21 (by decide) hf (fun c21 hf => ?_) (fun c21 hf => ?_)
    · refine z_iload (j := 6) C d_X10_pour_41 rfl ?_
      refine z_aload_n (j := 0) C d_X10_pour_43 rfl ?_
      refine zg_X10_zone C rfl tw_244 d_X10_pour_44 ?_
      refine z_icmp_gt (tgt := 54) C d_X10_pour_47 (by decide) hf (fun c47 hf => ?_) (fun c47 hf => ?_)
      · refine z_iconst (v := 0) C d_X10_pour_54 (by decide) ?_
        exact z_sub [0, 2, 6] rfl (t_X10_pour_55 C hr  _ _ _ _ hf)
      · refine z_iconst (v := 1) C d_X10_pour_50 (by decide) ?_
        refine z_goto (tgt := 55) C d_X10_pour_51 (by decide) ?_
        exact z_sub [0, 2, 6] rfl (t_X10_pour_55 C hr  _ _ _ _ hf)
    · refine z_iload (j := 6) C d_X10_pour_24 rfl ?_
      refine z_aload_n (j := 0) C d_X10_pour_26 rfl ?_
      refine zg_X10_zone C rfl tw_244 d_X10_pour_27 ?_
      refine z_icmp_le (tgt := 37) C d_X10_pour_30 (by decide) hf (fun c30 hf => ?_) (fun c30 hf => ?_)
      · refine z_iconst (v := 0) C d_X10_pour_37 (by decide) ?_
        refine z_goto (tgt := 55) C d_X10_pour_38 (by decide) ?_
        exact z_sub [0, 2, 6] rfl (t_X10_pour_55 C hr  _ _ _ _ hf)
      · refine z_iconst (v := 1) C d_X10_pour_33 (by decide) ?_
        refine z_goto (tgt := 55) C d_X10_pour_34 (by decide) ?_
        exact z_sub [0, 2, 6] rfl (t_X10_pour_55 C hr  _ _ _ _ hf)
  · exact r_v C hr d_X10_pour_15 hf
theorem d_X1_trial_0 : decode cX1_trial 0 = .ok (.aload_n 1, 1) := by decide +kernel
theorem d_X1_trial_1 : decode cX1_trial 1 = .ok (.iload_n 3, 1) := by decide +kernel
theorem d_X1_trial_2 : decode cX1_trial 2 = .ok (.invokevirtual 65, 3) := by decide +kernel
theorem d_X1_trial_5 : decode cX1_trial 5 = .ok (.astore 4, 2) := by decide +kernel
theorem d_X1_trial_7 : decode cX1_trial 7 = .ok (.aload 4, 2) := by decide +kernel
theorem d_X1_trial_9 : decode cX1_trial 9 = .ok (.ifnull 16, 3) := by decide +kernel
theorem d_X1_trial_12 : decode cX1_trial 12 = .ok (.iload_n 2, 1) := by decide +kernel
theorem d_X1_trial_13 : decode cX1_trial 13 = .ok (.ifCond .lt 12, 3) := by decide +kernel
theorem d_X1_trial_16 : decode cX1_trial 16 = .ok (.iload_n 2, 1) := by decide +kernel
theorem d_X1_trial_17 : decode cX1_trial 17 = .ok (.aload_n 0, 1) := by decide +kernel
theorem d_X1_trial_18 : decode cX1_trial 18 = .ok (.getfield 19, 3) := by decide +kernel
theorem d_X1_trial_21 : decode cX1_trial 21 = .ok (.arraylength, 1) := by decide +kernel
theorem d_X1_trial_22 : decode cX1_trial 22 = .ok (.if_icmp .lt 5, 3) := by decide +kernel
theorem d_X1_trial_25 : decode cX1_trial 25 = .ok (.lconst 0, 1) := by decide +kernel
theorem d_X1_trial_26 : decode cX1_trial 26 = .ok (.lreturn, 1) := by decide +kernel
theorem d_X1_trial_27 : decode cX1_trial 27 = .ok (.aload_n 0, 1) := by decide +kernel
theorem d_X1_trial_28 : decode cX1_trial 28 = .ok (.getfield 19, 3) := by decide +kernel
theorem d_X1_trial_31 : decode cX1_trial 31 = .ok (.iload_n 2, 1) := by decide +kernel
theorem d_X1_trial_32 : decode cX1_trial 32 = .ok (.iload_n 3, 1) := by decide +kernel
theorem d_X1_trial_33 : decode cX1_trial 33 = .ok (.iastore, 1) := by decide +kernel
theorem d_X1_trial_34 : decode cX1_trial 34 = .ok (.aload 4, 2) := by decide +kernel
theorem d_X1_trial_36 : decode cX1_trial 36 = .ok (.aload_n 0, 1) := by decide +kernel
theorem d_X1_trial_37 : decode cX1_trial 37 = .ok (.getfield 22, 3) := by decide +kernel
theorem d_X1_trial_40 : decode cX1_trial 40 = .ok (.iload_n 2, 1) := by decide +kernel
theorem d_X1_trial_41 : decode cX1_trial 41 = .ok (.iaload, 1) := by decide +kernel
theorem d_X1_trial_42 : decode cX1_trial 42 = .ok (.invokevirtual 69, 3) := by decide +kernel
theorem d_X1_trial_45 : decode cX1_trial 45 = .ok (.istore 5, 2) := by decide +kernel
theorem d_X1_trial_47 : decode cX1_trial 47 = .ok (.aload_n 0, 1) := by decide +kernel
theorem d_X1_trial_48 : decode cX1_trial 48 = .ok (.getfield 9, 3) := by decide +kernel
theorem d_X1_trial_51 : decode cX1_trial 51 = .ok (.aload_n 1, 1) := by decide +kernel
theorem d_X1_trial_52 : decode cX1_trial 52 = .ok (.iconst (-1), 1) := by decide +kernel
theorem d_X1_trial_53 : decode cX1_trial 53 = .ok (.iload_n 3, 1) := by decide +kernel
theorem d_X1_trial_54 : decode cX1_trial 54 = .ok (.iload 5, 2) := by decide +kernel
theorem d_X1_trial_56 : decode cX1_trial 56 = .ok (.aload_n 0, 1) := by decide +kernel
theorem d_X1_trial_57 : decode cX1_trial 57 = .ok (.getfield 25, 3) := by decide +kernel
theorem d_X1_trial_60 : decode cX1_trial 60 = .ok (.iload_n 2, 1) := by decide +kernel
theorem d_X1_trial_61 : decode cX1_trial 61 = .ok (.laload, 1) := by decide +kernel
theorem d_X1_trial_62 : decode cX1_trial 62 = .ok (.iload 5, 2) := by decide +kernel
theorem d_X1_trial_64 : decode cX1_trial 64 = .ok (.invokestatic 78, 3) := by decide +kernel
theorem d_X1_trial_67 : decode cX1_trial 67 = .ok (.iconst 0, 1) := by decide +kernel
theorem d_X1_trial_68 : decode cX1_trial 68 = .ok (.invokevirtual 81, 3) := by decide +kernel
theorem d_X1_trial_71 : decode cX1_trial 71 = .ok (.aload_n 0, 1) := by decide +kernel
theorem d_X1_trial_72 : decode cX1_trial 72 = .ok (.getfield 9, 3) := by decide +kernel
theorem d_X1_trial_75 : decode cX1_trial 75 = .ok (.getfield 87, 3) := by decide +kernel
theorem d_X1_trial_78 : decode cX1_trial 78 = .ok (.lreturn, 1) := by decide +kernel
def f_X1_trial_25 (S : Mem) : Option (Int64 × Mem) := (some (0, S))
set_option maxRecDepth 20000 in
theorem t_X1_trial_25 {X : MC} {Γ : GG} (C : CX X Γ cX1_trial 6 "TickPools$Finder" 5 148) (hr : X.2.2.2.2.2.2.2.2.1.sig.returnType = some .long) {q : Int64 × Mem} (S : Mem) (hf : f_X1_trial_25 S = some q) : ZZ X Γ 6 (QQ X Γ (some (aJ q.1)) q.2) S 25 [] [] := by
  unfold f_X1_trial_25 at hf
  refine z_lconst (v := 0) C d_X1_trial_25 (by decide) ?_
  exact r_l C hr d_X1_trial_26 hf
/-- TickPools$Finder.trial(LTickPools$Market;II)J -/
def f_X1_trial (p1 : Nat) (p2 : Int32) (p3 : Int32) (S : Mem) : Option (Int64 × Mem) := (if kd p1 = (1, 9) then ((f_X2_poolAt p1 p3 S).bind fun q2 => (if q2.1 = 0 then (f_X1_trial_25  q2.2) else (if p2 < 0 then (f_X1_trial_25  q2.2) else (if p2 < 3 then (if inb p2 3 = true then (if inb p2 3 = true then (if kd q2.1 = (3, 12) then ((f_X4_sideOf q2.1 (gI (sI q2.2 16 ((p2 : Int32).toNatClampNeg) p3) 17 ((p2 : Int32).toNatClampNeg)) (sI q2.2 16 ((p2 : Int32).toNatClampNeg) p3)).bind fun q42 => (if inb p2 3 = true then ((f_X11_lastTick q42.1 q42.2).bind fun q64 => ((f_X10_pour p1 (-1) p3 q42.1 (gL q42.2 18 ((p2 : Int32).toNatClampNeg)) q64.1 0 q64.2).bind fun q68 => (some ((gL q68.2 4 11), q68.2)))) else none)) else none) else none) else none) else (f_X1_trial_25  q2.2))))) else none)
set_option maxRecDepth 20000 in
theorem c_X1_trial {l : Launch} {Γ : GG} (hI : Inj Γ) {p1 : Nat} {p2 : Int32} {p3 : Int32} {S : Mem} {q : Int64 × Mem} (hf : f_X1_trial p1 p2 p3 S = some q) : MM l Γ yX1_trial cX1_trial 6 (some .long) 5 148 [aR 14, aR p1, aI p2, aI p3] S (some (aJ q.1)) q.2 := by
  refine met_of hI "TickPools$Finder" rfl (by decide +kernel) (Nat.le_of_ble_eq_true rfl) (fun X hX C hr => ?_)
  unfold f_X1_trial at hf
  show ZZ X Γ 6 _ S 0 [(0, aR 14), (1, aR p1), (2, aI p2), (3, aI p3)] []
  refine z_aload_n (j := 1) C d_X1_trial_0 rfl ?_
  refine z_iload_n (j := 3) C d_X1_trial_1 rfl ?_
  obtain ⟨hg2_0, hf⟩ := gd hf
  obtain ⟨q2, hF, hf⟩ := bd hf
  refine z_callV1 (rest := []) C [aI p3] hg2_0 (by decide) rfl rfl k_X2_poolAt tw_1138 ⟨by decide, by decide⟩ (Nat.le_of_ble_eq_true rfl) d_X1_trial_2 (c_X2_poolAt C.inj hF) rfl ?_
  refine z_astore (lv' := [(4, aR q2.1), (0, aR 14), (1, aR p1), (2, aI p2), (3, aI p3)]) C d_X1_trial_5 (by decide) rfl ?_
  refine z_aload (j := 0) C d_X1_trial_7 rfl ?_
  refine z_ifnull (tgt := 25) C d_X1_trial_9 (by decide) hf (fun c9 hf => ?_) (fun c9 hf => ?_)
  · exact z_sub [] rfl (t_X1_trial_25 C hr  _ hf)
  · refine z_iload_n (j := 3) C d_X1_trial_12 rfl ?_
    refine z_if_lt (tgt := 25) C d_X1_trial_13 (by decide) hf (fun c13 hf => ?_) (fun c13 hf => ?_)
    · exact z_sub [] rfl (t_X1_trial_25 C hr  _ hf)
    · refine z_iload_n (j := 3) C d_X1_trial_16 rfl ?_
      refine z_aload_n (j := 1) C d_X1_trial_17 rfl ?_
      refine zg_X1_row C rfl tw_437 d_X1_trial_18 ?_
      refine z_alen (v := 3) C rfl (by decide) (by decide) d_X1_trial_21 ?_
      refine z_icmp_lt (tgt := 27) C d_X1_trial_22 (by decide) hf (fun c22 hf => ?_) (fun c22 hf => ?_)
      · refine z_aload_n (j := 1) C d_X1_trial_27 rfl ?_
        refine zg_X1_row C rfl tw_437 d_X1_trial_28 ?_
        refine z_iload_n (j := 3) C d_X1_trial_31 rfl ?_
        refine z_iload_n (j := 4) C d_X1_trial_32 rfl ?_
        obtain ⟨hi33_0, hf⟩ := gd hf
        refine z_iast C rfl hi33_0 d_X1_trial_33 ?_
        refine z_aload (j := 0) C d_X1_trial_34 rfl ?_
        refine z_aload_n (j := 1) C d_X1_trial_36 rfl ?_
        refine zg_X1_thing C rfl tw_438 d_X1_trial_37 ?_
        refine z_iload_n (j := 3) C d_X1_trial_40 rfl ?_
        obtain ⟨hi41_1, hf⟩ := gd hf
        refine z_iald C rfl hi41_1 d_X1_trial_41 ?_
        obtain ⟨hg42_1, hf⟩ := gd hf
        obtain ⟨q42, hF, hf⟩ := bd hf
        refine z_callV1 (rest := []) C [aI (gI (sI q2.2 16 ((p2 : Int32).toNatClampNeg) p3) 17 ((p2 : Int32).toNatClampNeg))] hg42_1 (by decide) rfl rfl k_X4_sideOf tw_1139 ⟨by decide, by decide⟩ (Nat.le_of_ble_eq_true rfl) d_X1_trial_42 (c_X4_sideOf C.inj hF) rfl ?_
        refine z_istore (lv' := [(5, aI q42.1), (4, aR q2.1), (0, aR 14), (1, aR p1), (2, aI p2), (3, aI p3)]) C d_X1_trial_45 (by decide) rfl ?_
        refine z_aload_n (j := 2) C d_X1_trial_47 rfl ?_
        refine zg_X1_trade C rfl tw_435 d_X1_trial_48 ?_
        refine z_aload_n (j := 3) C d_X1_trial_51 rfl ?_
        refine z_iconst (v := (-1)) C d_X1_trial_52 (by decide) ?_
        refine z_iload_n (j := 5) C d_X1_trial_53 rfl ?_
        refine z_iload (j := 0) C d_X1_trial_54 rfl ?_
        refine z_aload_n (j := 2) C d_X1_trial_56 rfl ?_
        refine zg_X1_amount C rfl tw_439 d_X1_trial_57 ?_
        refine z_iload_n (j := 4) C d_X1_trial_60 rfl ?_
        obtain ⟨hi61_4, hf⟩ := gd hf
        refine z_lald C rfl hi61_4 d_X1_trial_61 ?_
        refine z_iload (j := 0) C d_X1_trial_62 rfl ?_
        obtain ⟨q64, hF, hf⟩ := bd hf
        refine z_callSN1 (rest := [aJ (gL q42.2 18 ((p2 : Int32).toNatClampNeg)), aI q42.1, aI p3, aI (-1), aR p1, aR 4]) C [aI q42.1] k_X11_lastTick (nw_8) ⟨by decide, by decide⟩ (Nat.le_of_ble_eq_true rfl) d_X1_trial_64 (c_X11_lastTick C.inj hF) rfl ?_
        refine z_iconst (v := 0) C d_X1_trial_67 (by decide) ?_
        obtain ⟨q68, hF, hf⟩ := bd hf
        refine z_callV0 (rest := []) C [aR p1, aI (-1), aI p3, aI q42.1, aJ (gL q42.2 18 ((p2 : Int32).toNatClampNeg)), aI q64.1, aI 0] rfl (by decide) rfl rfl k_X10_pour tw_1153 ⟨by decide, by decide⟩ (Nat.le_of_ble_eq_true rfl) d_X1_trial_68 (c_X10_pour C.inj hF) rfl ?_
        refine z_aload_n (j := 2) C d_X1_trial_71 rfl ?_
        refine zg_X1_trade C rfl tw_435 d_X1_trial_72 ?_
        refine zg_X10_gave C rfl tw_252 d_X1_trial_75 ?_
        exact r_l C hr d_X1_trial_78 hf
      · exact z_sub [] rfl (t_X1_trial_25 C hr  _ hf)
theorem d_X1_consider_0 : decode cX1_consider 0 = .ok (.lload_n 2, 1) := by decide +kernel
theorem d_X1_consider_1 : decode cX1_consider 1 = .ok (.iload 4, 2) := by decide +kernel
theorem d_X1_consider_3 : decode cX1_consider 3 = .ok (.i2l, 1) := by decide +kernel
theorem d_X1_consider_4 : decode cX1_consider 4 = .ok (.lsub, 1) := by decide +kernel
theorem d_X1_consider_5 : decode cX1_consider 5 = .ok (.lstore 5, 2) := by decide +kernel
theorem d_X1_consider_7 : decode cX1_consider 7 = .ok (.lload 5, 2) := by decide +kernel
theorem d_X1_consider_9 : decode cX1_consider 9 = .ok (.aload_n 0, 1) := by decide +kernel
theorem d_X1_consider_10 : decode cX1_consider 10 = .ok (.getfield 36, 3) := by decide +kernel
theorem d_X1_consider_13 : decode cX1_consider 13 = .ok (.lcmp, 1) := by decide +kernel
theorem d_X1_consider_14 : decode cX1_consider 14 = .ok (.ifCond .ne 24, 3) := by decide +kernel
theorem d_X1_consider_17 : decode cX1_consider 17 = .ok (.iload 4, 2) := by decide +kernel
theorem d_X1_consider_19 : decode cX1_consider 19 = .ok (.aload_n 0, 1) := by decide +kernel
theorem d_X1_consider_20 : decode cX1_consider 20 = .ok (.getfield 40, 3) := by decide +kernel
theorem d_X1_consider_23 : decode cX1_consider 23 = .ok (.if_icmp .ne 15, 3) := by decide +kernel
theorem d_X1_consider_26 : decode cX1_consider 26 = .ok (.iload_n 1, 1) := by decide +kernel
theorem d_X1_consider_27 : decode cX1_consider 27 = .ok (.aload_n 0, 1) := by decide +kernel
theorem d_X1_consider_28 : decode cX1_consider 28 = .ok (.getfield 32, 3) := by decide +kernel
theorem d_X1_consider_31 : decode cX1_consider 31 = .ok (.if_icmp .ge 7, 3) := by decide +kernel
theorem d_X1_consider_34 : decode cX1_consider 34 = .ok (.iconst 1, 1) := by decide +kernel
theorem d_X1_consider_35 : decode cX1_consider 35 = .ok (.goto 4, 3) := by decide +kernel
theorem d_X1_consider_38 : decode cX1_consider 38 = .ok (.iconst 0, 1) := by decide +kernel
theorem d_X1_consider_39 : decode cX1_consider 39 = .ok (.istore 7, 2) := by decide +kernel
theorem d_X1_consider_41 : decode cX1_consider 41 = .ok (.lload 5, 2) := by decide +kernel
theorem d_X1_consider_43 : decode cX1_consider 43 = .ok (.aload_n 0, 1) := by decide +kernel
theorem d_X1_consider_44 : decode cX1_consider 44 = .ok (.getfield 36, 3) := by decide +kernel
theorem d_X1_consider_47 : decode cX1_consider 47 = .ok (.lcmp, 1) := by decide +kernel
theorem d_X1_consider_48 : decode cX1_consider 48 = .ok (.ifCond .gt 8, 3) := by decide +kernel
theorem d_X1_consider_51 : decode cX1_consider 51 = .ok (.iload 7, 2) := by decide +kernel
theorem d_X1_consider_53 : decode cX1_consider 53 = .ok (.ifCond .eq 38, 3) := by decide +kernel
theorem d_X1_consider_56 : decode cX1_consider 56 = .ok (.aload_n 0, 1) := by decide +kernel
theorem d_X1_consider_57 : decode cX1_consider 57 = .ok (.lload 5, 2) := by decide +kernel
theorem d_X1_consider_59 : decode cX1_consider 59 = .ok (.putfield 36, 3) := by decide +kernel
theorem d_X1_consider_62 : decode cX1_consider 62 = .ok (.aload_n 0, 1) := by decide +kernel
theorem d_X1_consider_63 : decode cX1_consider 63 = .ok (.iload 4, 2) := by decide +kernel
theorem d_X1_consider_65 : decode cX1_consider 65 = .ok (.putfield 40, 3) := by decide +kernel
theorem d_X1_consider_68 : decode cX1_consider 68 = .ok (.aload_n 0, 1) := by decide +kernel
theorem d_X1_consider_69 : decode cX1_consider 69 = .ok (.iload_n 1, 1) := by decide +kernel
theorem d_X1_consider_70 : decode cX1_consider 70 = .ok (.putfield 32, 3) := by decide +kernel
theorem d_X1_consider_73 : decode cX1_consider 73 = .ok (.aload_n 0, 1) := by decide +kernel
theorem d_X1_consider_74 : decode cX1_consider 74 = .ok (.getfield 19, 3) := by decide +kernel
theorem d_X1_consider_77 : decode cX1_consider 77 = .ok (.iconst 0, 1) := by decide +kernel
theorem d_X1_consider_78 : decode cX1_consider 78 = .ok (.aload_n 0, 1) := by decide +kernel
theorem d_X1_consider_79 : decode cX1_consider 79 = .ok (.getfield 15, 3) := by decide +kernel
theorem d_X1_consider_82 : decode cX1_consider 82 = .ok (.iconst 0, 1) := by decide +kernel
theorem d_X1_consider_83 : decode cX1_consider 83 = .ok (.aload_n 0, 1) := by decide +kernel
theorem d_X1_consider_84 : decode cX1_consider 84 = .ok (.getfield 15, 3) := by decide +kernel
theorem d_X1_consider_87 : decode cX1_consider 87 = .ok (.arraylength, 1) := by decide +kernel
theorem d_X1_consider_88 : decode cX1_consider 88 = .ok (.invokestatic 90, 3) := by decide +kernel
theorem d_X1_consider_91 : decode cX1_consider 91 = .ok (.return_, 1) := by decide +kernel
def f_X1_consider_91 (S : Mem) : Option (Unit × Mem) := (some ((), S))
set_option maxRecDepth 20000 in
theorem t_X1_consider_91 {X : MC} {Γ : GG} (C : CX X Γ cX1_consider 8 "TickPools$Finder" 1 40) (hr : X.2.2.2.2.2.2.2.2.1.sig.returnType = none) {q : Unit × Mem} (S : Mem) (hf : f_X1_consider_91 S = some q) : ZZ X Γ 8 (QQ X Γ none q.2) S 91 [] [] := by
  unfold f_X1_consider_91 at hf
  exact r_v C hr d_X1_consider_91 hf
def f_X1_consider_73 (S : Mem) : Option (Unit × Mem) := (f_X1_consider_91  (cpI S 16 ((0 : Int32).toNatClampNeg) 15 ((0 : Int32).toNatClampNeg) ((3 : Int32).toNatClampNeg)))
set_option maxRecDepth 20000 in
theorem t_X1_consider_73 {X : MC} {Γ : GG} (C : CX X Γ cX1_consider 8 "TickPools$Finder" 1 40) (hr : X.2.2.2.2.2.2.2.2.1.sig.returnType = none) {q : Unit × Mem} (S : Mem) (hf : f_X1_consider_73 S = some q) : ZZ X Γ 8 (QQ X Γ none q.2) S 73 [(0, aR 14)] [] := by
  unfold f_X1_consider_73 at hf
  refine z_aload_n (j := 0) C d_X1_consider_73 rfl ?_
  refine zg_X1_row C rfl tw_437 d_X1_consider_74 ?_
  refine z_iconst (v := 0) C d_X1_consider_77 (by decide) ?_
  refine z_aload_n (j := 0) C d_X1_consider_78 rfl ?_
  refine zg_X1_best C rfl tw_436 d_X1_consider_79 ?_
  refine z_iconst (v := 0) C d_X1_consider_82 (by decide) ?_
  refine z_aload_n (j := 0) C d_X1_consider_83 rfl ?_
  refine zg_X1_best C rfl tw_436 d_X1_consider_84 ?_
  refine z_alen (v := 3) C rfl (by decide) (by decide) d_X1_consider_87 ?_
  refine z_copy C tw_1158 rfl rfl (by decide) (by decide) (by decide) (by decide) (by decide) (by decide) (Nat.le_of_ble_eq_true rfl) d_X1_consider_88 ?_
  exact z_sub [] rfl (t_X1_consider_91 C hr  _ hf)
def f_X1_consider_56 (v1 : Int32) (v4 : Int32) (v5 : Int64) (S : Mem) : Option (Unit × Mem) := (f_X1_consider_73  (sI (sI (sL S 14 0 v5) 14 1 v4) 14 2 v1))
set_option maxRecDepth 20000 in
theorem t_X1_consider_56 {X : MC} {Γ : GG} (C : CX X Γ cX1_consider 8 "TickPools$Finder" 1 40) (hr : X.2.2.2.2.2.2.2.2.1.sig.returnType = none) {q : Unit × Mem} (v1 : Int32) (v4 : Int32) (v5 : Int64) (S : Mem) (hf : f_X1_consider_56 v1 v4 v5 S = some q) : ZZ X Γ 8 (QQ X Γ none q.2) S 56 [(0, aR 14), (1, aI v1), (4, aI v4), (5, aJ v5)] [] := by
  unfold f_X1_consider_56 at hf
  refine z_aload_n (j := 0) C d_X1_consider_56 rfl ?_
  refine z_lload (j := 3) C d_X1_consider_57 rfl ?_
  refine zp_X1_bestGain C rfl tw_429 d_X1_consider_59 ?_
  refine z_aload_n (j := 0) C d_X1_consider_62 rfl ?_
  refine z_iload (j := 2) C d_X1_consider_63 rfl ?_
  refine zp_X1_bestAmount C rfl tw_431 d_X1_consider_65 ?_
  refine z_aload_n (j := 0) C d_X1_consider_68 rfl ?_
  refine z_iload_n (j := 1) C d_X1_consider_69 rfl ?_
  refine zp_X1_bestLength C rfl tw_433 d_X1_consider_70 ?_
  exact z_sub [0] rfl (t_X1_consider_73 C hr  _ hf)
def f_X1_consider_39 (v1 : Int32) (v4 : Int32) (v5 : Int64) (s0 : Int32) (S : Mem) : Option (Unit × Mem) := (if (gL S 14 0) < v5 then (f_X1_consider_56  v1 v4 v5 S) else (if s0 = 0 then (f_X1_consider_91  S) else (f_X1_consider_56  v1 v4 v5 S)))
set_option maxRecDepth 20000 in
theorem t_X1_consider_39 {X : MC} {Γ : GG} (C : CX X Γ cX1_consider 8 "TickPools$Finder" 1 40) (hr : X.2.2.2.2.2.2.2.2.1.sig.returnType = none) {q : Unit × Mem} (v1 : Int32) (v4 : Int32) (v5 : Int64) (s0 : Int32) (S : Mem) (hf : f_X1_consider_39 v1 v4 v5 s0 S = some q) : ZZ X Γ 8 (QQ X Γ none q.2) S 39 [(0, aR 14), (1, aI v1), (4, aI v4), (5, aJ v5)] [aI s0] := by
  unfold f_X1_consider_39 at hf
  refine z_istore (lv' := [(7, aI s0), (0, aR 14), (1, aI v1), (4, aI v4), (5, aJ v5)]) C d_X1_consider_39 (by decide) rfl ?_
  refine z_lload (j := 4) C d_X1_consider_41 rfl ?_
  refine z_aload_n (j := 1) C d_X1_consider_43 rfl ?_
  refine zg_X1_bestGain C rfl tw_429 d_X1_consider_44 ?_
  refine z_lgt (tgt := 56) C d_X1_consider_47 d_X1_consider_48 (by decide) hf (fun c47 hf => ?_) (fun c47 hf => ?_)
  · exact z_sub [1, 2, 3, 4] rfl (t_X1_consider_56 C hr  _ _ _ _ hf)
  · refine z_iload (j := 0) C d_X1_consider_51 rfl ?_
    refine z_if_eq (tgt := 91) C d_X1_consider_53 (by decide) hf (fun c53 hf => ?_) (fun c53 hf => ?_)
    · exact z_sub [] rfl (t_X1_consider_91 C hr  _ hf)
    · exact z_sub [1, 2, 3, 4] rfl (t_X1_consider_56 C hr  _ _ _ _ hf)
def f_X1_consider_38 (v1 : Int32) (v4 : Int32) (v5 : Int64) (S : Mem) : Option (Unit × Mem) := (f_X1_consider_39  v1 v4 v5 0 S)
set_option maxRecDepth 20000 in
theorem t_X1_consider_38 {X : MC} {Γ : GG} (C : CX X Γ cX1_consider 8 "TickPools$Finder" 1 40) (hr : X.2.2.2.2.2.2.2.2.1.sig.returnType = none) {q : Unit × Mem} (v1 : Int32) (v4 : Int32) (v5 : Int64) (S : Mem) (hf : f_X1_consider_38 v1 v4 v5 S = some q) : ZZ X Γ 8 (QQ X Γ none q.2) S 38 [(0, aR 14), (1, aI v1), (4, aI v4), (5, aJ v5)] [] := by
  unfold f_X1_consider_38 at hf
  refine z_iconst (v := 0) C d_X1_consider_38 (by decide) ?_
  exact z_sub [0, 1, 2, 3] rfl (t_X1_consider_39 C hr  _ _ _ _ _ hf)
def f_X1_consider_7 (v1 : Int32) (v4 : Int32) (v5 : Int64) (S : Mem) : Option (Unit × Mem) := (if v5 = (gL S 14 0) then (if v4 = (gI S 14 1) then (if (gI S 14 2) ≤ v1 then (f_X1_consider_38  v1 v4 v5 S) else (f_X1_consider_39  v1 v4 v5 1 S)) else (f_X1_consider_38  v1 v4 v5 S)) else (f_X1_consider_38  v1 v4 v5 S))
set_option maxRecDepth 20000 in
theorem t_X1_consider_7 {X : MC} {Γ : GG} (C : CX X Γ cX1_consider 8 "TickPools$Finder" 1 40) (hr : X.2.2.2.2.2.2.2.2.1.sig.returnType = none) {q : Unit × Mem} (v1 : Int32) (v4 : Int32) (v5 : Int64) (S : Mem) (hf : f_X1_consider_7 v1 v4 v5 S = some q) : ZZ X Γ 8 (QQ X Γ none q.2) S 7 [(0, aR 14), (1, aI v1), (4, aI v4), (5, aJ v5)] [] := by
  unfold f_X1_consider_7 at hf
  refine z_lload (j := 3) C d_X1_consider_7 rfl ?_
  refine z_aload_n (j := 0) C d_X1_consider_9 rfl ?_
  refine zg_X1_bestGain C rfl tw_429 d_X1_consider_10 ?_
  refine z_lne (tgt := 38) C d_X1_consider_13 d_X1_consider_14 (by decide) hf (fun c13 hf => ?_) (fun c13 hf => ?_)
  · exact z_sub [0, 1, 2, 3] rfl (t_X1_consider_38 C hr  _ _ _ _ hf)
  · refine z_iload (j := 2) C d_X1_consider_17 rfl ?_
    refine z_aload_n (j := 0) C d_X1_consider_19 rfl ?_
    refine zg_X1_bestAmount C rfl tw_431 d_X1_consider_20 ?_
    refine z_icmp_ne (tgt := 38) C d_X1_consider_23 (by decide) hf (fun c23 hf => ?_) (fun c23 hf => ?_)
    · exact z_sub [0, 1, 2, 3] rfl (t_X1_consider_38 C hr  _ _ _ _ hf)
    · refine z_iload_n (j := 1) C d_X1_consider_26 rfl ?_
      refine z_aload_n (j := 0) C d_X1_consider_27 rfl ?_
      refine zg_X1_bestLength C rfl tw_433 d_X1_consider_28 ?_
      refine z_icmp_ge (tgt := 38) C d_X1_consider_31 (by decide) hf (fun c31 hf => ?_) (fun c31 hf => ?_)
      · exact z_sub [0, 1, 2, 3] rfl (t_X1_consider_38 C hr  _ _ _ _ hf)
      · refine z_iconst (v := 1) C d_X1_consider_34 (by decide) ?_
        refine z_goto (tgt := 39) C d_X1_consider_35 (by decide) ?_
        exact z_sub [0, 1, 2, 3] rfl (t_X1_consider_39 C hr  _ _ _ _ _ hf)
/-- TickPools$Finder.consider(IJI)V -/
def f_X1_consider (p1 : Int32) (p2 : Int64) (p4 : Int32) (S : Mem) : Option (Unit × Mem) := (f_X1_consider_7  p1 p4 (p2 - (p4.toInt64)) S)
set_option maxRecDepth 20000 in
theorem c_X1_consider {l : Launch} {Γ : GG} (hI : Inj Γ) {p1 : Int32} {p2 : Int64} {p4 : Int32} {S : Mem} {q : Unit × Mem} (hf : f_X1_consider p1 p2 p4 S = some q) : MM l Γ yX1_consider cX1_consider 8 (none) 1 40 [aR 14, aI p1, aJ p2, aI p4] S none q.2 := by
  refine met_of hI "TickPools$Finder" rfl (by decide +kernel) (Nat.le_of_ble_eq_true rfl) (fun X hX C hr => ?_)
  unfold f_X1_consider at hf
  show ZZ X Γ 8 _ S 0 [(0, aR 14), (1, aI p1), (2, aJ p2), (4, aI p4)] []
  refine z_lload_n (j := 2) C d_X1_consider_0 rfl ?_
  refine z_iload (j := 3) C d_X1_consider_1 rfl ?_
  refine z_i2l C d_X1_consider_3 ?_
  refine z_lsub C d_X1_consider_4 ?_
  refine z_lstore (lv' := [(5, aJ (p2 - (p4.toInt64))), (0, aR 14), (1, aI p1), (2, aJ p2), (4, aI p4)]) C d_X1_consider_5 (by decide) rfl ?_
  exact z_sub [1, 2, 4, 0] rfl (t_X1_consider_7 C hr  _ _ _ _ hf)
theorem d_X1_search_0 : decode cX1_search 0 = .ok (.iconst 0, 1) := by decide +kernel
theorem d_X1_search_1 : decode cX1_search 1 = .ok (.istore 5, 2) := by decide +kernel
theorem d_X1_search_3 : decode cX1_search 3 = .ok (.aload_n 0, 1) := by decide +kernel
theorem d_X1_search_4 : decode cX1_search 4 = .ok (.getfield 22, 3) := by decide +kernel
theorem d_X1_search_7 : decode cX1_search 7 = .ok (.iconst 0, 1) := by decide +kernel
theorem d_X1_search_8 : decode cX1_search 8 = .ok (.iload_n 2, 1) := by decide +kernel
theorem d_X1_search_9 : decode cX1_search 9 = .ok (.iastore, 1) := by decide +kernel
theorem d_X1_search_10 : decode cX1_search 10 = .ok (.aload_n 0, 1) := by decide +kernel
theorem d_X1_search_11 : decode cX1_search 11 = .ok (.getfield 25, 3) := by decide +kernel
theorem d_X1_search_14 : decode cX1_search 14 = .ok (.iconst 0, 1) := by decide +kernel
theorem d_X1_search_15 : decode cX1_search 15 = .ok (.iload 4, 2) := by decide +kernel
theorem d_X1_search_17 : decode cX1_search 17 = .ok (.i2l, 1) := by decide +kernel
theorem d_X1_search_18 : decode cX1_search 18 = .ok (.lastore, 1) := by decide +kernel
theorem d_X1_search_19 : decode cX1_search 19 = .ok (.aload_n 0, 1) := by decide +kernel
theorem d_X1_search_20 : decode cX1_search 20 = .ok (.getfield 29, 3) := by decide +kernel
theorem d_X1_search_23 : decode cX1_search 23 = .ok (.iconst 0, 1) := by decide +kernel
theorem d_X1_search_24 : decode cX1_search 24 = .ok (.iconst 0, 1) := by decide +kernel
theorem d_X1_search_25 : decode cX1_search 25 = .ok (.iastore, 1) := by decide +kernel
theorem d_X1_search_26 : decode cX1_search 26 = .ok (.iconst 0, 1) := by decide +kernel
theorem d_X1_search_27 : decode cX1_search 27 = .ok (.istore 6, 2) := by decide +kernel
theorem d_X1_search_29 : decode cX1_search 29 = .ok (.iload 6, 2) := by decide +kernel
theorem d_X1_search_31 : decode cX1_search 31 = .ok (.ldc 43, 2) := by decide +kernel
theorem d_X1_search_33 : decode cX1_search 33 = .ok (.if_icmp .ge 200, 3) := by decide +kernel
theorem d_X1_search_36 : decode cX1_search 36 = .ok (.iload 5, 2) := by decide +kernel
theorem d_X1_search_38 : decode cX1_search 38 = .ok (.ifCond .lt 195, 3) := by decide +kernel
theorem d_X1_search_41 : decode cX1_search 41 = .ok (.iload 5, 2) := by decide +kernel
theorem d_X1_search_43 : decode cX1_search 43 = .ok (.iconst 3, 1) := by decide +kernel
theorem d_X1_search_44 : decode cX1_search 44 = .ok (.if_icmp .ge 189, 3) := by decide +kernel
theorem d_X1_search_47 : decode cX1_search 47 = .ok (.aload_n 0, 1) := by decide +kernel
theorem d_X1_search_48 : decode cX1_search 48 = .ok (.getfield 29, 3) := by decide +kernel
theorem d_X1_search_51 : decode cX1_search 51 = .ok (.iload 5, 2) := by decide +kernel
theorem d_X1_search_53 : decode cX1_search 53 = .ok (.iaload, 1) := by decide +kernel
theorem d_X1_search_54 : decode cX1_search 54 = .ok (.istore 7, 2) := by decide +kernel
theorem d_X1_search_56 : decode cX1_search 56 = .ok (.aload_n 0, 1) := by decide +kernel
theorem d_X1_search_57 : decode cX1_search 57 = .ok (.getfield 29, 3) := by decide +kernel
theorem d_X1_search_60 : decode cX1_search 60 = .ok (.iload 5, 2) := by decide +kernel
theorem d_X1_search_62 : decode cX1_search 62 = .ok (.dup2, 1) := by decide +kernel
theorem d_X1_search_63 : decode cX1_search 63 = .ok (.iaload, 1) := by decide +kernel
theorem d_X1_search_64 : decode cX1_search 64 = .ok (.iconst 1, 1) := by decide +kernel
theorem d_X1_search_65 : decode cX1_search 65 = .ok (.iadd, 1) := by decide +kernel
theorem d_X1_search_66 : decode cX1_search 66 = .ok (.iastore, 1) := by decide +kernel
theorem d_X1_search_67 : decode cX1_search 67 = .ok (.iload 7, 2) := by decide +kernel
theorem d_X1_search_69 : decode cX1_search 69 = .ok (.aload_n 1, 1) := by decide +kernel
theorem d_X1_search_70 : decode cX1_search 70 = .ok (.getfield 44, 3) := by decide +kernel
theorem d_X1_search_73 : decode cX1_search 73 = .ok (.if_icmp .lt 9, 3) := by decide +kernel
theorem d_X1_search_76 : decode cX1_search 76 = .ok (.iinc 5 (-1), 3) := by decide +kernel
theorem d_X1_search_79 : decode cX1_search 79 = .ok (.goto 148, 3) := by decide +kernel
theorem d_X1_search_82 : decode cX1_search 82 = .ok (.aload_n 0, 1) := by decide +kernel
theorem d_X1_search_83 : decode cX1_search 83 = .ok (.aload_n 1, 1) := by decide +kernel
theorem d_X1_search_84 : decode cX1_search 84 = .ok (.iload 5, 2) := by decide +kernel
theorem d_X1_search_86 : decode cX1_search 86 = .ok (.iload 7, 2) := by decide +kernel
theorem d_X1_search_88 : decode cX1_search 88 = .ok (.invokevirtual 49, 3) := by decide +kernel
theorem d_X1_search_91 : decode cX1_search 91 = .ok (.istore 8, 2) := by decide +kernel
theorem d_X1_search_93 : decode cX1_search 93 = .ok (.iload 8, 2) := by decide +kernel
theorem d_X1_search_95 : decode cX1_search 95 = .ok (.iload_n 3, 1) := by decide +kernel
theorem d_X1_search_96 : decode cX1_search 96 = .ok (.if_icmp .ne 7, 3) := by decide +kernel
theorem d_X1_search_99 : decode cX1_search 99 = .ok (.iconst 1, 1) := by decide +kernel
theorem d_X1_search_100 : decode cX1_search 100 = .ok (.goto 4, 3) := by decide +kernel
theorem d_X1_search_103 : decode cX1_search 103 = .ok (.iconst 0, 1) := by decide +kernel
theorem d_X1_search_104 : decode cX1_search 104 = .ok (.istore 9, 2) := by decide +kernel
theorem d_X1_search_106 : decode cX1_search 106 = .ok (.iload 5, 2) := by decide +kernel
theorem d_X1_search_108 : decode cX1_search 108 = .ok (.iconst 1, 1) := by decide +kernel
theorem d_X1_search_109 : decode cX1_search 109 = .ok (.iadd, 1) := by decide +kernel
theorem d_X1_search_110 : decode cX1_search 110 = .ok (.iconst 3, 1) := by decide +kernel
theorem d_X1_search_111 : decode cX1_search 111 = .ok (.if_icmp .ge 18, 3) := by decide +kernel
theorem d_X1_search_114 : decode cX1_search 114 = .ok (.aload_n 0, 1) := by decide +kernel
theorem d_X1_search_115 : decode cX1_search 115 = .ok (.iload 5, 2) := by decide +kernel
theorem d_X1_search_117 : decode cX1_search 117 = .ok (.iload 8, 2) := by decide +kernel
theorem d_X1_search_119 : decode cX1_search 119 = .ok (.invokevirtual 53, 3) := by decide +kernel
theorem d_X1_search_122 : decode cX1_search 122 = .ok (.ifCond .ne 7, 3) := by decide +kernel
theorem d_X1_search_125 : decode cX1_search 125 = .ok (.iconst 1, 1) := by decide +kernel
theorem d_X1_search_126 : decode cX1_search 126 = .ok (.goto 4, 3) := by decide +kernel
theorem d_X1_search_129 : decode cX1_search 129 = .ok (.iconst 0, 1) := by decide +kernel
theorem d_X1_search_130 : decode cX1_search 130 = .ok (.istore 10, 2) := by decide +kernel
theorem d_X1_search_132 : decode cX1_search 132 = .ok (.iload 8, 2) := by decide +kernel
theorem d_X1_search_134 : decode cX1_search 134 = .ok (.iconst (-1), 1) := by decide +kernel
theorem d_X1_search_135 : decode cX1_search 135 = .ok (.if_icmp .eq 92, 3) := by decide +kernel
theorem d_X1_search_138 : decode cX1_search 138 = .ok (.iload 9, 2) := by decide +kernel
theorem d_X1_search_140 : decode cX1_search 140 = .ok (.ifCond .ne 8, 3) := by decide +kernel
theorem d_X1_search_143 : decode cX1_search 143 = .ok (.iload 10, 2) := by decide +kernel
theorem d_X1_search_145 : decode cX1_search 145 = .ok (.ifCond .eq 82, 3) := by decide +kernel
theorem d_X1_search_148 : decode cX1_search 148 = .ok (.aload_n 0, 1) := by decide +kernel
theorem d_X1_search_149 : decode cX1_search 149 = .ok (.aload_n 1, 1) := by decide +kernel
theorem d_X1_search_150 : decode cX1_search 150 = .ok (.iload 5, 2) := by decide +kernel
theorem d_X1_search_152 : decode cX1_search 152 = .ok (.iload 7, 2) := by decide +kernel
theorem d_X1_search_154 : decode cX1_search 154 = .ok (.invokevirtual 57, 3) := by decide +kernel
theorem d_X1_search_157 : decode cX1_search 157 = .ok (.lstore 11, 2) := by decide +kernel
theorem d_X1_search_159 : decode cX1_search 159 = .ok (.lload 11, 2) := by decide +kernel
theorem d_X1_search_161 : decode cX1_search 161 = .ok (.lconst 0, 1) := by decide +kernel
theorem d_X1_search_162 : decode cX1_search 162 = .ok (.lcmp, 1) := by decide +kernel
theorem d_X1_search_163 : decode cX1_search 163 = .ok (.ifCond .le 23, 3) := by decide +kernel
theorem d_X1_search_166 : decode cX1_search 166 = .ok (.iload 9, 2) := by decide +kernel
theorem d_X1_search_168 : decode cX1_search 168 = .ok (.ifCond .eq 18, 3) := by decide +kernel
theorem d_X1_search_171 : decode cX1_search 171 = .ok (.aload_n 0, 1) := by decide +kernel
theorem d_X1_search_172 : decode cX1_search 172 = .ok (.iload 5, 2) := by decide +kernel
theorem d_X1_search_174 : decode cX1_search 174 = .ok (.iconst 1, 1) := by decide +kernel
theorem d_X1_search_175 : decode cX1_search 175 = .ok (.iadd, 1) := by decide +kernel
theorem d_X1_search_176 : decode cX1_search 176 = .ok (.lload 11, 2) := by decide +kernel
theorem d_X1_search_178 : decode cX1_search 178 = .ok (.iload 4, 2) := by decide +kernel
theorem d_X1_search_180 : decode cX1_search 180 = .ok (.invokevirtual 61, 3) := by decide +kernel
theorem d_X1_search_183 : decode cX1_search 183 = .ok (.goto 44, 3) := by decide +kernel
theorem d_X1_search_186 : decode cX1_search 186 = .ok (.lload 11, 2) := by decide +kernel
theorem d_X1_search_188 : decode cX1_search 188 = .ok (.lconst 0, 1) := by decide +kernel
theorem d_X1_search_189 : decode cX1_search 189 = .ok (.lcmp, 1) := by decide +kernel
theorem d_X1_search_190 : decode cX1_search 190 = .ok (.ifCond .le 37, 3) := by decide +kernel
theorem d_X1_search_193 : decode cX1_search 193 = .ok (.iload 10, 2) := by decide +kernel
theorem d_X1_search_195 : decode cX1_search 195 = .ok (.ifCond .eq 32, 3) := by decide +kernel
theorem d_X1_search_198 : decode cX1_search 198 = .ok (.iinc 5 1, 3) := by decide +kernel
theorem d_X1_search_201 : decode cX1_search 201 = .ok (.aload_n 0, 1) := by decide +kernel
theorem d_X1_search_202 : decode cX1_search 202 = .ok (.getfield 22, 3) := by decide +kernel
theorem d_X1_search_205 : decode cX1_search 205 = .ok (.iload 5, 2) := by decide +kernel
theorem d_X1_search_207 : decode cX1_search 207 = .ok (.iload 8, 2) := by decide +kernel
theorem d_X1_search_209 : decode cX1_search 209 = .ok (.iastore, 1) := by decide +kernel
theorem d_X1_search_210 : decode cX1_search 210 = .ok (.aload_n 0, 1) := by decide +kernel
theorem d_X1_search_211 : decode cX1_search 211 = .ok (.getfield 25, 3) := by decide +kernel
theorem d_X1_search_214 : decode cX1_search 214 = .ok (.iload 5, 2) := by decide +kernel
theorem d_X1_search_216 : decode cX1_search 216 = .ok (.lload 11, 2) := by decide +kernel
theorem d_X1_search_218 : decode cX1_search 218 = .ok (.lastore, 1) := by decide +kernel
theorem d_X1_search_219 : decode cX1_search 219 = .ok (.aload_n 0, 1) := by decide +kernel
theorem d_X1_search_220 : decode cX1_search 220 = .ok (.getfield 29, 3) := by decide +kernel
theorem d_X1_search_223 : decode cX1_search 223 = .ok (.iload 5, 2) := by decide +kernel
theorem d_X1_search_225 : decode cX1_search 225 = .ok (.iconst 0, 1) := by decide +kernel
theorem d_X1_search_226 : decode cX1_search 226 = .ok (.iastore, 1) := by decide +kernel
theorem d_X1_search_227 : decode cX1_search 227 = .ok (.iinc 6 1, 3) := by decide +kernel
theorem d_X1_search_230 : decode cX1_search 230 = .ok (.goto (-201), 3) := by decide +kernel
theorem d_X1_search_233 : decode cX1_search 233 = .ok (.return_, 1) := by decide +kernel
def f_X1_search_227 (k29 : Nat → Int32 → Int32 → Int32 → Int32 → Mem → Option (Unit × Mem)) (v1 : Nat) (v3 : Int32) (v4 : Int32) (v5 : Int32) (v6 : Int32) (S : Mem) : Option (Unit × Mem) := (k29 v1 v3 v4 v5 (v6 + 1) S)
set_option maxRecDepth 20000 in
theorem t_X1_search_227 {X : MC} {Γ : GG} (C : CX X Γ cX1_search 13 "TickPools$Finder" 6 173) (hr : X.2.2.2.2.2.2.2.2.1.sig.returnType = none) {k29 : Nat → Int32 → Int32 → Int32 → Int32 → Mem → Option (Unit × Mem)} {q : Unit × Mem} (hk29 : ∀ (v1 : Nat) (v3 : Int32) (v4 : Int32) (v5 : Int32) (v6 : Int32) (S : Mem), k29 v1 v3 v4 v5 v6 S = some q → ZZ X Γ 13 (QQ X Γ none q.2) S 29 [(0, aR 14), (1, aR v1), (3, aI v3), (4, aI v4), (5, aI v5), (6, aI v6)] []) (v1 : Nat) (v3 : Int32) (v4 : Int32) (v5 : Int32) (v6 : Int32) (S : Mem) (hf : f_X1_search_227 k29 v1 v3 v4 v5 v6 S = some q) : ZZ X Γ 13 (QQ X Γ none q.2) S 227 [(0, aR 14), (1, aR v1), (3, aI v3), (4, aI v4), (5, aI v5), (6, aI v6)] [] := by
  unfold f_X1_search_227 at hf
  refine z_iinc (j := 5) (v := (v6 + 1)) (lv' := [(6, aI (v6 + 1)), (0, aR 14), (1, aR v1), (3, aI v3), (4, aI v4), (5, aI v5)]) C d_X1_search_227 rfl rfl (by decide) rfl ?_
  refine z_goto (tgt := 29) C d_X1_search_230 (by decide) ?_
  exact z_sub [1, 2, 3, 4, 5, 0] rfl (hk29 _ _ _ _ _ _ hf)
def f_X1_search_201 (k29 : Nat → Int32 → Int32 → Int32 → Int32 → Mem → Option (Unit × Mem)) (v1 : Nat) (v3 : Int32) (v4 : Int32) (v5 : Int32) (v6 : Int32) (v8 : Int32) (v11 : Int64) (S : Mem) : Option (Unit × Mem) := (if inb v5 3 = true then (if inb v5 3 = true then (if inb v5 3 = true then (f_X1_search_227 k29 v1 v3 v4 v5 v6 (sI (sL (sI S 17 ((v5 : Int32).toNatClampNeg) v8) 18 ((v5 : Int32).toNatClampNeg) v11) 19 ((v5 : Int32).toNatClampNeg) 0)) else none) else none) else none)
set_option maxRecDepth 20000 in
theorem t_X1_search_201 {X : MC} {Γ : GG} (C : CX X Γ cX1_search 13 "TickPools$Finder" 6 173) (hr : X.2.2.2.2.2.2.2.2.1.sig.returnType = none) {k29 : Nat → Int32 → Int32 → Int32 → Int32 → Mem → Option (Unit × Mem)} {q : Unit × Mem} (hk29 : ∀ (v1 : Nat) (v3 : Int32) (v4 : Int32) (v5 : Int32) (v6 : Int32) (S : Mem), k29 v1 v3 v4 v5 v6 S = some q → ZZ X Γ 13 (QQ X Γ none q.2) S 29 [(0, aR 14), (1, aR v1), (3, aI v3), (4, aI v4), (5, aI v5), (6, aI v6)] []) (v1 : Nat) (v3 : Int32) (v4 : Int32) (v5 : Int32) (v6 : Int32) (v8 : Int32) (v11 : Int64) (S : Mem) (hf : f_X1_search_201 k29 v1 v3 v4 v5 v6 v8 v11 S = some q) : ZZ X Γ 13 (QQ X Γ none q.2) S 201 [(0, aR 14), (1, aR v1), (3, aI v3), (4, aI v4), (5, aI v5), (6, aI v6), (8, aI v8), (11, aJ v11)] [] := by
  unfold f_X1_search_201 at hf
  refine z_aload_n (j := 0) C d_X1_search_201 rfl ?_
  refine zg_X1_thing C rfl tw_438 d_X1_search_202 ?_
  refine z_iload (j := 4) C d_X1_search_205 rfl ?_
  refine z_iload (j := 6) C d_X1_search_207 rfl ?_
  obtain ⟨hi209_0, hf⟩ := gd hf
  refine z_iast C rfl hi209_0 d_X1_search_209 ?_
  refine z_aload_n (j := 0) C d_X1_search_210 rfl ?_
  refine zg_X1_amount C rfl tw_439 d_X1_search_211 ?_
  refine z_iload (j := 4) C d_X1_search_214 rfl ?_
  refine z_lload (j := 7) C d_X1_search_216 rfl ?_
  obtain ⟨hi218_1, hf⟩ := gd hf
  refine z_last C rfl hi218_1 d_X1_search_218 ?_
  refine z_aload_n (j := 0) C d_X1_search_219 rfl ?_
  refine zg_X1_next C rfl tw_440 d_X1_search_220 ?_
  refine z_iload (j := 4) C d_X1_search_223 rfl ?_
  refine z_iconst (v := 0) C d_X1_search_225 (by decide) ?_
  obtain ⟨hi226_2, hf⟩ := gd hf
  refine z_iast C rfl hi226_2 d_X1_search_226 ?_
  exact z_sub [0, 1, 2, 3, 4, 5] rfl (t_X1_search_227 C hr hk29 _ _ _ _ _ _ hf)
def f_X1_search_186 (k29 : Nat → Int32 → Int32 → Int32 → Int32 → Mem → Option (Unit × Mem)) (v1 : Nat) (v3 : Int32) (v4 : Int32) (v5 : Int32) (v6 : Int32) (v8 : Int32) (v10 : Int32) (v11 : Int64) (S : Mem) : Option (Unit × Mem) := (if v11 ≤ 0 then (f_X1_search_227 k29 v1 v3 v4 v5 v6 S) else (if v10 = 0 then (f_X1_search_227 k29 v1 v3 v4 v5 v6 S) else (f_X1_search_201 k29 v1 v3 v4 (v5 + 1) v6 v8 v11 S)))
set_option maxRecDepth 20000 in
theorem t_X1_search_186 {X : MC} {Γ : GG} (C : CX X Γ cX1_search 13 "TickPools$Finder" 6 173) (hr : X.2.2.2.2.2.2.2.2.1.sig.returnType = none) {k29 : Nat → Int32 → Int32 → Int32 → Int32 → Mem → Option (Unit × Mem)} {q : Unit × Mem} (hk29 : ∀ (v1 : Nat) (v3 : Int32) (v4 : Int32) (v5 : Int32) (v6 : Int32) (S : Mem), k29 v1 v3 v4 v5 v6 S = some q → ZZ X Γ 13 (QQ X Γ none q.2) S 29 [(0, aR 14), (1, aR v1), (3, aI v3), (4, aI v4), (5, aI v5), (6, aI v6)] []) (v1 : Nat) (v3 : Int32) (v4 : Int32) (v5 : Int32) (v6 : Int32) (v8 : Int32) (v10 : Int32) (v11 : Int64) (S : Mem) (hf : f_X1_search_186 k29 v1 v3 v4 v5 v6 v8 v10 v11 S = some q) : ZZ X Γ 13 (QQ X Γ none q.2) S 186 [(0, aR 14), (1, aR v1), (3, aI v3), (4, aI v4), (5, aI v5), (6, aI v6), (8, aI v8), (10, aI v10), (11, aJ v11)] [] := by
  unfold f_X1_search_186 at hf
  refine z_lload (j := 8) C d_X1_search_186 rfl ?_
  refine z_lconst (v := 0) C d_X1_search_188 (by decide) ?_
  refine z_lle (tgt := 227) C d_X1_search_189 d_X1_search_190 (by decide) hf (fun c189 hf => ?_) (fun c189 hf => ?_)
  · exact z_sub [0, 1, 2, 3, 4, 5] rfl (t_X1_search_227 C hr hk29 _ _ _ _ _ _ hf)
  · refine z_iload (j := 7) C d_X1_search_193 rfl ?_
    refine z_if_eq (tgt := 227) C d_X1_search_195 (by decide) hf (fun c195 hf => ?_) (fun c195 hf => ?_)
    · exact z_sub [0, 1, 2, 3, 4, 5] rfl (t_X1_search_227 C hr hk29 _ _ _ _ _ _ hf)
    · refine z_iinc (j := 4) (v := (v5 + 1)) (lv' := [(5, aI (v5 + 1)), (0, aR 14), (1, aR v1), (3, aI v3), (4, aI v4), (6, aI v6), (8, aI v8), (10, aI v10), (11, aJ v11)]) C d_X1_search_198 rfl rfl (by decide) rfl ?_
      exact z_sub [1, 2, 3, 4, 0, 5, 6, 8] rfl (t_X1_search_201 C hr hk29 _ _ _ _ _ _ _ _ hf)
def f_X1_search_148 (k29 : Nat → Int32 → Int32 → Int32 → Int32 → Mem → Option (Unit × Mem)) (v1 : Nat) (v3 : Int32) (v4 : Int32) (v5 : Int32) (v6 : Int32) (v7 : Int32) (v8 : Int32) (v9 : Int32) (v10 : Int32) (S : Mem) : Option (Unit × Mem) := ((f_X1_trial v1 v5 v7 S).bind fun q154 => (if q154.1 ≤ 0 then (f_X1_search_186 k29 v1 v3 v4 v5 v6 v8 v10 q154.1 q154.2) else (if v9 = 0 then (f_X1_search_186 k29 v1 v3 v4 v5 v6 v8 v10 q154.1 q154.2) else ((f_X1_consider (v5 + 1) q154.1 v4 q154.2).bind fun q180 => (f_X1_search_227 k29 v1 v3 v4 v5 v6 q180.2)))))
set_option maxRecDepth 20000 in
theorem t_X1_search_148 {X : MC} {Γ : GG} (C : CX X Γ cX1_search 13 "TickPools$Finder" 6 173) (hr : X.2.2.2.2.2.2.2.2.1.sig.returnType = none) {k29 : Nat → Int32 → Int32 → Int32 → Int32 → Mem → Option (Unit × Mem)} {q : Unit × Mem} (hk29 : ∀ (v1 : Nat) (v3 : Int32) (v4 : Int32) (v5 : Int32) (v6 : Int32) (S : Mem), k29 v1 v3 v4 v5 v6 S = some q → ZZ X Γ 13 (QQ X Γ none q.2) S 29 [(0, aR 14), (1, aR v1), (3, aI v3), (4, aI v4), (5, aI v5), (6, aI v6)] []) (v1 : Nat) (v3 : Int32) (v4 : Int32) (v5 : Int32) (v6 : Int32) (v7 : Int32) (v8 : Int32) (v9 : Int32) (v10 : Int32) (S : Mem) (hf : f_X1_search_148 k29 v1 v3 v4 v5 v6 v7 v8 v9 v10 S = some q) : ZZ X Γ 13 (QQ X Γ none q.2) S 148 [(0, aR 14), (1, aR v1), (3, aI v3), (4, aI v4), (5, aI v5), (6, aI v6), (7, aI v7), (8, aI v8), (9, aI v9), (10, aI v10)] [] := by
  unfold f_X1_search_148 at hf
  refine z_aload_n (j := 0) C d_X1_search_148 rfl ?_
  refine z_aload_n (j := 1) C d_X1_search_149 rfl ?_
  refine z_iload (j := 4) C d_X1_search_150 rfl ?_
  refine z_iload (j := 6) C d_X1_search_152 rfl ?_
  obtain ⟨q154, hF, hf⟩ := bd hf
  refine z_callV1 (rest := []) C [aR v1, aI v5, aI v7] rfl (by decide) rfl rfl k_X1_trial tw_1148 ⟨by decide, by decide⟩ (Nat.le_of_ble_eq_true rfl) d_X1_search_154 (c_X1_trial C.inj hF) rfl ?_
  refine z_lstore (lv' := [(11, aJ q154.1), (0, aR 14), (1, aR v1), (3, aI v3), (4, aI v4), (5, aI v5), (6, aI v6), (7, aI v7), (8, aI v8), (9, aI v9), (10, aI v10)]) C d_X1_search_157 (by decide) rfl ?_
  refine z_lload (j := 0) C d_X1_search_159 rfl ?_
  refine z_lconst (v := 0) C d_X1_search_161 (by decide) ?_
  refine z_lle (tgt := 186) C d_X1_search_162 d_X1_search_163 (by decide) hf (fun c162 hf => ?_) (fun c162 hf => ?_)
  · exact z_sub [1, 2, 3, 4, 5, 6, 8, 10, 0] rfl (t_X1_search_186 C hr hk29 _ _ _ _ _ _ _ _ _ hf)
  · refine z_iload (j := 9) C d_X1_search_166 rfl ?_
    refine z_if_eq (tgt := 186) C d_X1_search_168 (by decide) hf (fun c168 hf => ?_) (fun c168 hf => ?_)
    · exact z_sub [1, 2, 3, 4, 5, 6, 8, 10, 0] rfl (t_X1_search_186 C hr hk29 _ _ _ _ _ _ _ _ _ hf)
    · refine z_aload_n (j := 1) C d_X1_search_171 rfl ?_
      refine z_iload (j := 5) C d_X1_search_172 rfl ?_
      refine z_iconst (v := 1) C d_X1_search_174 (by decide) ?_
      refine z_iadd C d_X1_search_175 ?_
      refine z_lload (j := 0) C d_X1_search_176 rfl ?_
      refine z_iload (j := 4) C d_X1_search_178 rfl ?_
      obtain ⟨q180, hF, hf⟩ := bd hf
      refine z_callV0 (rest := []) C [aI (v5 + 1), aJ q154.1, aI v4] rfl (by decide) rfl rfl k_X1_consider tw_1154 ⟨by decide, by decide⟩ (Nat.le_of_ble_eq_true rfl) d_X1_search_180 (c_X1_consider C.inj hF) rfl ?_
      refine z_goto (tgt := 227) C d_X1_search_183 (by decide) ?_
      exact z_sub [1, 2, 3, 4, 5, 6] rfl (t_X1_search_227 C hr hk29 _ _ _ _ _ _ hf)
def f_X1_search_130 (k29 : Nat → Int32 → Int32 → Int32 → Int32 → Mem → Option (Unit × Mem)) (v1 : Nat) (v3 : Int32) (v4 : Int32) (v5 : Int32) (v6 : Int32) (v7 : Int32) (v8 : Int32) (v9 : Int32) (s0 : Int32) (S : Mem) : Option (Unit × Mem) := (if v8 = (-1) then (f_X1_search_227 k29 v1 v3 v4 v5 v6 S) else (if v9 = 0 then (if s0 = 0 then (f_X1_search_227 k29 v1 v3 v4 v5 v6 S) else (f_X1_search_148 k29 v1 v3 v4 v5 v6 v7 v8 v9 s0 S)) else (f_X1_search_148 k29 v1 v3 v4 v5 v6 v7 v8 v9 s0 S)))
set_option maxRecDepth 20000 in
theorem t_X1_search_130 {X : MC} {Γ : GG} (C : CX X Γ cX1_search 13 "TickPools$Finder" 6 173) (hr : X.2.2.2.2.2.2.2.2.1.sig.returnType = none) {k29 : Nat → Int32 → Int32 → Int32 → Int32 → Mem → Option (Unit × Mem)} {q : Unit × Mem} (hk29 : ∀ (v1 : Nat) (v3 : Int32) (v4 : Int32) (v5 : Int32) (v6 : Int32) (S : Mem), k29 v1 v3 v4 v5 v6 S = some q → ZZ X Γ 13 (QQ X Γ none q.2) S 29 [(0, aR 14), (1, aR v1), (3, aI v3), (4, aI v4), (5, aI v5), (6, aI v6)] []) (v1 : Nat) (v3 : Int32) (v4 : Int32) (v5 : Int32) (v6 : Int32) (v7 : Int32) (v8 : Int32) (v9 : Int32) (s0 : Int32) (S : Mem) (hf : f_X1_search_130 k29 v1 v3 v4 v5 v6 v7 v8 v9 s0 S = some q) : ZZ X Γ 13 (QQ X Γ none q.2) S 130 [(0, aR 14), (1, aR v1), (3, aI v3), (4, aI v4), (5, aI v5), (6, aI v6), (7, aI v7), (8, aI v8), (9, aI v9)] [aI s0] := by
  unfold f_X1_search_130 at hf
  refine z_istore (lv' := [(10, aI s0), (0, aR 14), (1, aR v1), (3, aI v3), (4, aI v4), (5, aI v5), (6, aI v6), (7, aI v7), (8, aI v8), (9, aI v9)]) C d_X1_search_130 (by decide) rfl ?_
  refine z_iload (j := 8) C d_X1_search_132 rfl ?_
  refine z_iconst (v := (-1)) C d_X1_search_134 (by decide) ?_
  refine z_icmp_eq (tgt := 227) C d_X1_search_135 (by decide) hf (fun c135 hf => ?_) (fun c135 hf => ?_)
  · exact z_sub [1, 2, 3, 4, 5, 6] rfl (t_X1_search_227 C hr hk29 _ _ _ _ _ _ hf)
  · refine z_iload (j := 9) C d_X1_search_138 rfl ?_
    refine z_if_ne (tgt := 148) C d_X1_search_140 (by decide) hf (fun c140 hf => ?_) (fun c140 hf => ?_)
    · exact z_sub [1, 2, 3, 4, 5, 6, 7, 8, 9, 0] rfl (t_X1_search_148 C hr hk29 _ _ _ _ _ _ _ _ _ _ hf)
    · refine z_iload (j := 0) C d_X1_search_143 rfl ?_
      refine z_if_eq (tgt := 227) C d_X1_search_145 (by decide) hf (fun c145 hf => ?_) (fun c145 hf => ?_)
      · exact z_sub [1, 2, 3, 4, 5, 6] rfl (t_X1_search_227 C hr hk29 _ _ _ _ _ _ hf)
      · exact z_sub [1, 2, 3, 4, 5, 6, 7, 8, 9, 0] rfl (t_X1_search_148 C hr hk29 _ _ _ _ _ _ _ _ _ _ hf)
def f_X1_search_129 (k29 : Nat → Int32 → Int32 → Int32 → Int32 → Mem → Option (Unit × Mem)) (v1 : Nat) (v3 : Int32) (v4 : Int32) (v5 : Int32) (v6 : Int32) (v7 : Int32) (v8 : Int32) (v9 : Int32) (S : Mem) : Option (Unit × Mem) := (f_X1_search_130 k29 v1 v3 v4 v5 v6 v7 v8 v9 0 S)
set_option maxRecDepth 20000 in
theorem t_X1_search_129 {X : MC} {Γ : GG} (C : CX X Γ cX1_search 13 "TickPools$Finder" 6 173) (hr : X.2.2.2.2.2.2.2.2.1.sig.returnType = none) {k29 : Nat → Int32 → Int32 → Int32 → Int32 → Mem → Option (Unit × Mem)} {q : Unit × Mem} (hk29 : ∀ (v1 : Nat) (v3 : Int32) (v4 : Int32) (v5 : Int32) (v6 : Int32) (S : Mem), k29 v1 v3 v4 v5 v6 S = some q → ZZ X Γ 13 (QQ X Γ none q.2) S 29 [(0, aR 14), (1, aR v1), (3, aI v3), (4, aI v4), (5, aI v5), (6, aI v6)] []) (v1 : Nat) (v3 : Int32) (v4 : Int32) (v5 : Int32) (v6 : Int32) (v7 : Int32) (v8 : Int32) (v9 : Int32) (S : Mem) (hf : f_X1_search_129 k29 v1 v3 v4 v5 v6 v7 v8 v9 S = some q) : ZZ X Γ 13 (QQ X Γ none q.2) S 129 [(0, aR 14), (1, aR v1), (3, aI v3), (4, aI v4), (5, aI v5), (6, aI v6), (7, aI v7), (8, aI v8), (9, aI v9)] [] := by
  unfold f_X1_search_129 at hf
  refine z_iconst (v := 0) C d_X1_search_129 (by decide) ?_
  exact z_sub [0, 1, 2, 3, 4, 5, 6, 7, 8] rfl (t_X1_search_130 C hr hk29 _ _ _ _ _ _ _ _ _ _ hf)
def f_X1_search_104 (k29 : Nat → Int32 → Int32 → Int32 → Int32 → Mem → Option (Unit × Mem)) (v1 : Nat) (v3 : Int32) (v4 : Int32) (v5 : Int32) (v6 : Int32) (v7 : Int32) (v8 : Int32) (s0 : Int32) (S : Mem) : Option (Unit × Mem) := (if 3 ≤ (v5 + 1) then (f_X1_search_129 k29 v1 v3 v4 v5 v6 v7 v8 s0 S) else ((f_X1_wasAt v5 v8 S).bind fun q119 => (if q119.1 = 0 then (f_X1_search_130 k29 v1 v3 v4 v5 v6 v7 v8 s0 1 q119.2) else (f_X1_search_129 k29 v1 v3 v4 v5 v6 v7 v8 s0 q119.2))))
set_option maxRecDepth 20000 in
theorem t_X1_search_104 {X : MC} {Γ : GG} (C : CX X Γ cX1_search 13 "TickPools$Finder" 6 173) (hr : X.2.2.2.2.2.2.2.2.1.sig.returnType = none) {k29 : Nat → Int32 → Int32 → Int32 → Int32 → Mem → Option (Unit × Mem)} {q : Unit × Mem} (hk29 : ∀ (v1 : Nat) (v3 : Int32) (v4 : Int32) (v5 : Int32) (v6 : Int32) (S : Mem), k29 v1 v3 v4 v5 v6 S = some q → ZZ X Γ 13 (QQ X Γ none q.2) S 29 [(0, aR 14), (1, aR v1), (3, aI v3), (4, aI v4), (5, aI v5), (6, aI v6)] []) (v1 : Nat) (v3 : Int32) (v4 : Int32) (v5 : Int32) (v6 : Int32) (v7 : Int32) (v8 : Int32) (s0 : Int32) (S : Mem) (hf : f_X1_search_104 k29 v1 v3 v4 v5 v6 v7 v8 s0 S = some q) : ZZ X Γ 13 (QQ X Γ none q.2) S 104 [(0, aR 14), (1, aR v1), (3, aI v3), (4, aI v4), (5, aI v5), (6, aI v6), (7, aI v7), (8, aI v8)] [aI s0] := by
  unfold f_X1_search_104 at hf
  refine z_istore (lv' := [(9, aI s0), (0, aR 14), (1, aR v1), (3, aI v3), (4, aI v4), (5, aI v5), (6, aI v6), (7, aI v7), (8, aI v8)]) C d_X1_search_104 (by decide) rfl ?_
  refine z_iload (j := 5) C d_X1_search_106 rfl ?_
  refine z_iconst (v := 1) C d_X1_search_108 (by decide) ?_
  refine z_iadd C d_X1_search_109 ?_
  refine z_iconst (v := 3) C d_X1_search_110 (by decide) ?_
  refine z_icmp_ge (tgt := 129) C d_X1_search_111 (by decide) hf (fun c111 hf => ?_) (fun c111 hf => ?_)
  · exact z_sub [1, 2, 3, 4, 5, 6, 7, 8, 0] rfl (t_X1_search_129 C hr hk29 _ _ _ _ _ _ _ _ _ hf)
  · refine z_aload_n (j := 1) C d_X1_search_114 rfl ?_
    refine z_iload (j := 5) C d_X1_search_115 rfl ?_
    refine z_iload (j := 8) C d_X1_search_117 rfl ?_
    obtain ⟨q119, hF, hf⟩ := bd hf
    refine z_callV1 (rest := []) C [aI v5, aI v8] rfl (by decide) rfl rfl k_X1_wasAt tw_1144 ⟨by decide, by decide⟩ (Nat.le_of_ble_eq_true rfl) d_X1_search_119 (c_X1_wasAt C.inj hF) rfl ?_
    refine z_if_ne (tgt := 129) C d_X1_search_122 (by decide) hf (fun c122 hf => ?_) (fun c122 hf => ?_)
    · exact z_sub [1, 2, 3, 4, 5, 6, 7, 8, 0] rfl (t_X1_search_129 C hr hk29 _ _ _ _ _ _ _ _ _ hf)
    · refine z_iconst (v := 1) C d_X1_search_125 (by decide) ?_
      refine z_goto (tgt := 130) C d_X1_search_126 (by decide) ?_
      exact z_sub [1, 2, 3, 4, 5, 6, 7, 8, 0] rfl (t_X1_search_130 C hr hk29 _ _ _ _ _ _ _ _ _ _ hf)
def f_X1_search_56 (k29 : Nat → Int32 → Int32 → Int32 → Int32 → Mem → Option (Unit × Mem)) (v1 : Nat) (v3 : Int32) (v4 : Int32) (v5 : Int32) (v6 : Int32) (v7 : Int32) (S : Mem) : Option (Unit × Mem) := (if inb v5 3 = true then (if inb v5 3 = true then (if kd v1 = (1, 9) then (if v7 < (gI (sI S 19 ((v5 : Int32).toNatClampNeg) ((gI S 19 ((v5 : Int32).toNatClampNeg)) + 1)) v1 2) then ((f_X1_otherThing v1 v5 v7 (sI S 19 ((v5 : Int32).toNatClampNeg) ((gI S 19 ((v5 : Int32).toNatClampNeg)) + 1))).bind fun q88 => (if q88.1 = v3 then (f_X1_search_104 k29 v1 v3 v4 v5 v6 v7 q88.1 1 q88.2) else (f_X1_search_104 k29 v1 v3 v4 v5 v6 v7 q88.1 0 q88.2))) else (f_X1_search_227 k29 v1 v3 v4 (v5 + (-1)) v6 (sI S 19 ((v5 : Int32).toNatClampNeg) ((gI S 19 ((v5 : Int32).toNatClampNeg)) + 1)))) else none) else none) else none)
set_option maxRecDepth 20000 in
theorem t_X1_search_56 {X : MC} {Γ : GG} (C : CX X Γ cX1_search 13 "TickPools$Finder" 6 173) (hr : X.2.2.2.2.2.2.2.2.1.sig.returnType = none) {k29 : Nat → Int32 → Int32 → Int32 → Int32 → Mem → Option (Unit × Mem)} {q : Unit × Mem} (hk29 : ∀ (v1 : Nat) (v3 : Int32) (v4 : Int32) (v5 : Int32) (v6 : Int32) (S : Mem), k29 v1 v3 v4 v5 v6 S = some q → ZZ X Γ 13 (QQ X Γ none q.2) S 29 [(0, aR 14), (1, aR v1), (3, aI v3), (4, aI v4), (5, aI v5), (6, aI v6)] []) (v1 : Nat) (v3 : Int32) (v4 : Int32) (v5 : Int32) (v6 : Int32) (v7 : Int32) (S : Mem) (hf : f_X1_search_56 k29 v1 v3 v4 v5 v6 v7 S = some q) : ZZ X Γ 13 (QQ X Γ none q.2) S 56 [(0, aR 14), (1, aR v1), (3, aI v3), (4, aI v4), (5, aI v5), (6, aI v6), (7, aI v7)] [] := by
  unfold f_X1_search_56 at hf
  refine z_aload_n (j := 0) C d_X1_search_56 rfl ?_
  refine zg_X1_next C rfl tw_440 d_X1_search_57 ?_
  refine z_iload (j := 4) C d_X1_search_60 rfl ?_
  refine z_dup2_11 C d_X1_search_62 rfl rfl ?_
  obtain ⟨hi63_0, hf⟩ := gd hf
  refine z_iald C rfl hi63_0 d_X1_search_63 ?_
  refine z_iconst (v := 1) C d_X1_search_64 (by decide) ?_
  refine z_iadd C d_X1_search_65 ?_
  obtain ⟨hi66_1, hf⟩ := gd hf
  refine z_iast C rfl hi66_1 d_X1_search_66 ?_
  refine z_iload (j := 6) C d_X1_search_67 rfl ?_
  refine z_aload_n (j := 1) C d_X1_search_69 rfl ?_
  obtain ⟨hg70_0, hf⟩ := gd hf
  refine zg_X2_pools C hg70_0 tw_199 d_X1_search_70 ?_
  refine z_icmp_lt (tgt := 82) C d_X1_search_73 (by decide) hf (fun c73 hf => ?_) (fun c73 hf => ?_)
  · refine z_aload_n (j := 0) C d_X1_search_82 rfl ?_
    refine z_aload_n (j := 1) C d_X1_search_83 rfl ?_
    refine z_iload (j := 4) C d_X1_search_84 rfl ?_
    refine z_iload (j := 6) C d_X1_search_86 rfl ?_
    obtain ⟨q88, hF, hf⟩ := bd hf
    refine z_callV1 (rest := []) C [aR v1, aI v5, aI v7] rfl (by decide) rfl rfl k_X1_otherThing tw_1134 ⟨by decide, by decide⟩ (Nat.le_of_ble_eq_true rfl) d_X1_search_88 (c_X1_otherThing C.inj hF) rfl ?_
    refine z_istore (lv' := [(8, aI q88.1), (0, aR 14), (1, aR v1), (3, aI v3), (4, aI v4), (5, aI v5), (6, aI v6), (7, aI v7)]) C d_X1_search_91 (by decide) rfl ?_
    refine z_iload (j := 0) C d_X1_search_93 rfl ?_
    refine z_iload_n (j := 3) C d_X1_search_95 rfl ?_
    refine z_icmp_ne (tgt := 103) C d_X1_search_96 (by decide) hf (fun c96 hf => ?_) (fun c96 hf => ?_)
    · refine z_iconst (v := 0) C d_X1_search_103 (by decide) ?_
      exact z_sub [1, 2, 3, 4, 5, 6, 7, 0] rfl (t_X1_search_104 C hr hk29 _ _ _ _ _ _ _ _ _ hf)
    · refine z_iconst (v := 1) C d_X1_search_99 (by decide) ?_
      refine z_goto (tgt := 104) C d_X1_search_100 (by decide) ?_
      exact z_sub [1, 2, 3, 4, 5, 6, 7, 0] rfl (t_X1_search_104 C hr hk29 _ _ _ _ _ _ _ _ _ hf)
  · refine z_iinc (j := 4) (v := (v5 + (-1))) (lv' := [(5, aI (v5 + (-1))), (0, aR 14), (1, aR v1), (3, aI v3), (4, aI v4), (6, aI v6), (7, aI v7)]) C d_X1_search_76 rfl rfl (by decide) rfl ?_
    refine z_goto (tgt := 227) C d_X1_search_79 (by decide) ?_
    exact z_sub [1, 2, 3, 4, 0, 5] rfl (t_X1_search_227 C hr hk29 _ _ _ _ _ _ hf)
def f_X1_search_233 (S : Mem) : Option (Unit × Mem) := (some ((), S))
set_option maxRecDepth 20000 in
theorem t_X1_search_233 {X : MC} {Γ : GG} (C : CX X Γ cX1_search 13 "TickPools$Finder" 6 173) (hr : X.2.2.2.2.2.2.2.2.1.sig.returnType = none) {q : Unit × Mem} (S : Mem) (hf : f_X1_search_233 S = some q) : ZZ X Γ 13 (QQ X Γ none q.2) S 233 [] [] := by
  unfold f_X1_search_233 at hf
  exact r_v C hr d_X1_search_233 hf
def f_X1_search_29B (k29 : Nat → Int32 → Int32 → Int32 → Int32 → Mem → Option (Unit × Mem)) (v1 : Nat) (v3 : Int32) (v4 : Int32) (v5 : Int32) (v6 : Int32) (S : Mem) : Option (Unit × Mem) := (if 100000 ≤ v6 then (f_X1_search_233  S) else (if v5 < 0 then (f_X1_search_233  S) else (if 3 ≤ v5 then (f_X1_search_233  S) else (if inb v5 3 = true then (f_X1_search_56 k29 v1 v3 v4 v5 v6 (gI S 19 ((v5 : Int32).toNatClampNeg)) S) else none))))
set_option maxRecDepth 20000 in
theorem t_X1_search_29B {X : MC} {Γ : GG} (C : CX X Γ cX1_search 13 "TickPools$Finder" 6 173) (hr : X.2.2.2.2.2.2.2.2.1.sig.returnType = none) {k29 : Nat → Int32 → Int32 → Int32 → Int32 → Mem → Option (Unit × Mem)} {q : Unit × Mem} (hk29 : ∀ (v1 : Nat) (v3 : Int32) (v4 : Int32) (v5 : Int32) (v6 : Int32) (S : Mem), k29 v1 v3 v4 v5 v6 S = some q → ZZ X Γ 13 (QQ X Γ none q.2) S 29 [(0, aR 14), (1, aR v1), (3, aI v3), (4, aI v4), (5, aI v5), (6, aI v6)] []) (v1 : Nat) (v3 : Int32) (v4 : Int32) (v5 : Int32) (v6 : Int32) (S : Mem) (hf : f_X1_search_29B k29 v1 v3 v4 v5 v6 S = some q) : ZZ X Γ 13 (QQ X Γ none q.2) S 29 [(0, aR 14), (1, aR v1), (3, aI v3), (4, aI v4), (5, aI v5), (6, aI v6)] [] := by
  unfold f_X1_search_29B at hf
  refine z_iload (j := 5) C d_X1_search_29 rfl ?_
  refine z_ldc (v := 100000) C tw_1133 d_X1_search_31 ?_
  refine z_icmp_ge (tgt := 233) C d_X1_search_33 (by decide) hf (fun c33 hf => ?_) (fun c33 hf => ?_)
  · exact z_sub [] rfl (t_X1_search_233 C hr  _ hf)
  · refine z_iload (j := 4) C d_X1_search_36 rfl ?_
    refine z_if_lt (tgt := 233) C d_X1_search_38 (by decide) hf (fun c38 hf => ?_) (fun c38 hf => ?_)
    · exact z_sub [] rfl (t_X1_search_233 C hr  _ hf)
    · refine z_iload (j := 4) C d_X1_search_41 rfl ?_
      refine z_iconst (v := 3) C d_X1_search_43 (by decide) ?_
      refine z_icmp_ge (tgt := 233) C d_X1_search_44 (by decide) hf (fun c44 hf => ?_) (fun c44 hf => ?_)
      · exact z_sub [] rfl (t_X1_search_233 C hr  _ hf)
      · refine z_aload_n (j := 0) C d_X1_search_47 rfl ?_
        refine zg_X1_next C rfl tw_440 d_X1_search_48 ?_
        refine z_iload (j := 4) C d_X1_search_51 rfl ?_
        obtain ⟨hi53_0, hf⟩ := gd hf
        refine z_iald C rfl hi53_0 d_X1_search_53 ?_
        refine z_istore (lv' := [(7, aI (gI S 19 ((v5 : Int32).toNatClampNeg))), (0, aR 14), (1, aR v1), (3, aI v3), (4, aI v4), (5, aI v5), (6, aI v6)]) C d_X1_search_54 (by decide) rfl ?_
        exact z_sub [1, 2, 3, 4, 5, 6, 0] rfl (t_X1_search_56 C hr hk29 _ _ _ _ _ _ _ hf)
def f_X1_search_29 : Nat → Nat → Int32 → Int32 → Int32 → Int32 → Mem → Option (Unit × Mem)
  | 0 => fun _ _ _ _ _ _ => none
  | n + 1 => f_X1_search_29B (f_X1_search_29 n)
theorem t_X1_search_29 {X : MC} {Γ : GG} (C : CX X Γ cX1_search 13 "TickPools$Finder" 6 173) (hr : X.2.2.2.2.2.2.2.2.1.sig.returnType = none) {q : Unit × Mem} : ∀ (n : Nat) (v1 : Nat) (v3 : Int32) (v4 : Int32) (v5 : Int32) (v6 : Int32) (S : Mem) (hf : f_X1_search_29 n v1 v3 v4 v5 v6 S = some q), ZZ X Γ 13 (QQ X Γ none q.2) S 29 [(0, aR 14), (1, aR v1), (3, aI v3), (4, aI v4), (5, aI v5), (6, aI v6)] []
  | 0, _, _, _, _, _, _, hf => nomatch (show (none : Option (Unit × Mem)) = some q from hf)
  | n + 1, v1, v3, v4, v5, v6, S, hf => t_X1_search_29B C hr (t_X1_search_29 C hr n) v1 v3 v4 v5 v6 S hf
def f_X1_search_26 (v1 : Nat) (v3 : Int32) (v4 : Int32) (v5 : Int32) (S : Mem) : Option (Unit × Mem) := (f_X1_search_29  100000 v1 v3 v4 v5 0 S)
set_option maxRecDepth 20000 in
theorem t_X1_search_26 {X : MC} {Γ : GG} (C : CX X Γ cX1_search 13 "TickPools$Finder" 6 173) (hr : X.2.2.2.2.2.2.2.2.1.sig.returnType = none) {q : Unit × Mem} (v1 : Nat) (v3 : Int32) (v4 : Int32) (v5 : Int32) (S : Mem) (hf : f_X1_search_26 v1 v3 v4 v5 S = some q) : ZZ X Γ 13 (QQ X Γ none q.2) S 26 [(0, aR 14), (1, aR v1), (3, aI v3), (4, aI v4), (5, aI v5)] [] := by
  unfold f_X1_search_26 at hf
  refine z_iconst (v := 0) C d_X1_search_26 (by decide) ?_
  refine z_istore (lv' := [(6, aI 0), (0, aR 14), (1, aR v1), (3, aI v3), (4, aI v4), (5, aI v5)]) C d_X1_search_27 (by decide) rfl ?_
  exact z_sub [1, 2, 3, 4, 5, 0] rfl (t_X1_search_29 C hr  100000 _ _ _ _ _ _ hf)
/-- TickPools$Finder.search(LTickPools$Market;III)V -/
def f_X1_search (p1 : Nat) (p2 : Int32) (p3 : Int32) (p4 : Int32) (S : Mem) : Option (Unit × Mem) := (f_X1_search_26  p1 p3 p4 0 (sI (sL (sI S 17 ((0 : Int32).toNatClampNeg) p2) 18 ((0 : Int32).toNatClampNeg) (p4.toInt64)) 19 ((0 : Int32).toNatClampNeg) 0))
set_option maxRecDepth 20000 in
theorem c_X1_search {l : Launch} {Γ : GG} (hI : Inj Γ) {p1 : Nat} {p2 : Int32} {p3 : Int32} {p4 : Int32} {S : Mem} {q : Unit × Mem} (hf : f_X1_search p1 p2 p3 p4 S = some q) : MM l Γ yX1_search cX1_search 13 (none) 6 173 [aR 14, aR p1, aI p2, aI p3, aI p4] S none q.2 := by
  refine met_of hI "TickPools$Finder" rfl (by decide +kernel) (Nat.le_of_ble_eq_true rfl) (fun X hX C hr => ?_)
  unfold f_X1_search at hf
  show ZZ X Γ 13 _ S 0 [(0, aR 14), (1, aR p1), (2, aI p2), (3, aI p3), (4, aI p4)] []
  refine z_iconst (v := 0) C d_X1_search_0 (by decide) ?_
  refine z_istore (lv' := [(5, aI 0), (0, aR 14), (1, aR p1), (2, aI p2), (3, aI p3), (4, aI p4)]) C d_X1_search_1 (by decide) rfl ?_
  refine z_aload_n (j := 1) C d_X1_search_3 rfl ?_
  refine zg_X1_thing C rfl tw_438 d_X1_search_4 ?_
  refine z_iconst (v := 0) C d_X1_search_7 (by decide) ?_
  refine z_iload_n (j := 3) C d_X1_search_8 rfl ?_
  refine z_iast C rfl (by decide) d_X1_search_9 ?_
  refine z_aload_n (j := 1) C d_X1_search_10 rfl ?_
  refine zg_X1_amount C rfl tw_439 d_X1_search_11 ?_
  refine z_iconst (v := 0) C d_X1_search_14 (by decide) ?_
  refine z_iload (j := 5) C d_X1_search_15 rfl ?_
  refine z_i2l C d_X1_search_17 ?_
  refine z_last C rfl (by decide) d_X1_search_18 ?_
  refine z_aload_n (j := 1) C d_X1_search_19 rfl ?_
  refine zg_X1_next C rfl tw_440 d_X1_search_20 ?_
  refine z_iconst (v := 0) C d_X1_search_23 (by decide) ?_
  refine z_iconst (v := 0) C d_X1_search_24 (by decide) ?_
  refine z_iast C rfl (by decide) d_X1_search_25 ?_
  exact z_sub [1, 2, 4, 5, 0] rfl (t_X1_search_26 C hr  _ _ _ _ _ hf)
theorem d_X1_follow_0 : decode cX1_follow 0 = .ok (.iload_n 2, 1) := by decide +kernel
theorem d_X1_follow_1 : decode cX1_follow 1 = .ok (.istore 4, 2) := by decide +kernel
theorem d_X1_follow_3 : decode cX1_follow 3 = .ok (.iload_n 3, 1) := by decide +kernel
theorem d_X1_follow_4 : decode cX1_follow 4 = .ok (.i2l, 1) := by decide +kernel
theorem d_X1_follow_5 : decode cX1_follow 5 = .ok (.lstore 5, 2) := by decide +kernel
theorem d_X1_follow_7 : decode cX1_follow 7 = .ok (.iconst 0, 1) := by decide +kernel
theorem d_X1_follow_8 : decode cX1_follow 8 = .ok (.istore 7, 2) := by decide +kernel
theorem d_X1_follow_10 : decode cX1_follow 10 = .ok (.iload 7, 2) := by decide +kernel
theorem d_X1_follow_12 : decode cX1_follow 12 = .ok (.aload_n 0, 1) := by decide +kernel
theorem d_X1_follow_13 : decode cX1_follow 13 = .ok (.getfield 32, 3) := by decide +kernel
theorem d_X1_follow_16 : decode cX1_follow 16 = .ok (.if_icmp .ge 103, 3) := by decide +kernel
theorem d_X1_follow_19 : decode cX1_follow 19 = .ok (.iload 7, 2) := by decide +kernel
theorem d_X1_follow_21 : decode cX1_follow 21 = .ok (.aload_n 0, 1) := by decide +kernel
theorem d_X1_follow_22 : decode cX1_follow 22 = .ok (.getfield 15, 3) := by decide +kernel
theorem d_X1_follow_25 : decode cX1_follow 25 = .ok (.arraylength, 1) := by decide +kernel
theorem d_X1_follow_26 : decode cX1_follow 26 = .ok (.if_icmp .ge 93, 3) := by decide +kernel
theorem d_X1_follow_29 : decode cX1_follow 29 = .ok (.aload_n 1, 1) := by decide +kernel
theorem d_X1_follow_30 : decode cX1_follow 30 = .ok (.aload_n 0, 1) := by decide +kernel
theorem d_X1_follow_31 : decode cX1_follow 31 = .ok (.getfield 15, 3) := by decide +kernel
theorem d_X1_follow_34 : decode cX1_follow 34 = .ok (.iload 7, 2) := by decide +kernel
theorem d_X1_follow_36 : decode cX1_follow 36 = .ok (.iaload, 1) := by decide +kernel
theorem d_X1_follow_37 : decode cX1_follow 37 = .ok (.invokevirtual 65, 3) := by decide +kernel
theorem d_X1_follow_40 : decode cX1_follow 40 = .ok (.astore 8, 2) := by decide +kernel
theorem d_X1_follow_42 : decode cX1_follow 42 = .ok (.aload 8, 2) := by decide +kernel
theorem d_X1_follow_44 : decode cX1_follow 44 = .ok (.ifnonnull 7, 3) := by decide +kernel
theorem d_X1_follow_47 : decode cX1_follow 47 = .ok (.iconst (-1), 1) := by decide +kernel
theorem d_X1_follow_48 : decode cX1_follow 48 = .ok (.goto 10, 3) := by decide +kernel
theorem d_X1_follow_51 : decode cX1_follow 51 = .ok (.aload 8, 2) := by decide +kernel
theorem d_X1_follow_53 : decode cX1_follow 53 = .ok (.iload 4, 2) := by decide +kernel
theorem d_X1_follow_55 : decode cX1_follow 55 = .ok (.invokevirtual 69, 3) := by decide +kernel
theorem d_X1_follow_58 : decode cX1_follow 58 = .ok (.istore 9, 2) := by decide +kernel
theorem d_X1_follow_60 : decode cX1_follow 60 = .ok (.iload 9, 2) := by decide +kernel
theorem d_X1_follow_62 : decode cX1_follow 62 = .ok (.iconst (-1), 1) := by decide +kernel
theorem d_X1_follow_63 : decode cX1_follow 63 = .ok (.if_icmp .ne 4, 3) := by decide +kernel
theorem d_X1_follow_66 : decode cX1_follow 66 = .ok (.return_, 1) := by decide +kernel
theorem d_X1_follow_67 : decode cX1_follow 67 = .ok (.aload_n 0, 1) := by decide +kernel
theorem d_X1_follow_68 : decode cX1_follow 68 = .ok (.getfield 9, 3) := by decide +kernel
theorem d_X1_follow_71 : decode cX1_follow 71 = .ok (.aload_n 1, 1) := by decide +kernel
theorem d_X1_follow_72 : decode cX1_follow 72 = .ok (.iconst (-1), 1) := by decide +kernel
theorem d_X1_follow_73 : decode cX1_follow 73 = .ok (.aload_n 0, 1) := by decide +kernel
theorem d_X1_follow_74 : decode cX1_follow 74 = .ok (.getfield 15, 3) := by decide +kernel
theorem d_X1_follow_77 : decode cX1_follow 77 = .ok (.iload 7, 2) := by decide +kernel
theorem d_X1_follow_79 : decode cX1_follow 79 = .ok (.iaload, 1) := by decide +kernel
theorem d_X1_follow_80 : decode cX1_follow 80 = .ok (.iload 9, 2) := by decide +kernel
theorem d_X1_follow_82 : decode cX1_follow 82 = .ok (.lload 5, 2) := by decide +kernel
theorem d_X1_follow_84 : decode cX1_follow 84 = .ok (.iload 9, 2) := by decide +kernel
theorem d_X1_follow_86 : decode cX1_follow 86 = .ok (.invokestatic 78, 3) := by decide +kernel
theorem d_X1_follow_89 : decode cX1_follow 89 = .ok (.iconst 1, 1) := by decide +kernel
theorem d_X1_follow_90 : decode cX1_follow 90 = .ok (.invokevirtual 81, 3) := by decide +kernel
theorem d_X1_follow_93 : decode cX1_follow 93 = .ok (.aload_n 0, 1) := by decide +kernel
theorem d_X1_follow_94 : decode cX1_follow 94 = .ok (.getfield 9, 3) := by decide +kernel
theorem d_X1_follow_97 : decode cX1_follow 97 = .ok (.getfield 87, 3) := by decide +kernel
theorem d_X1_follow_100 : decode cX1_follow 100 = .ok (.lstore 5, 2) := by decide +kernel
theorem d_X1_follow_102 : decode cX1_follow 102 = .ok (.aload 8, 2) := by decide +kernel
theorem d_X1_follow_104 : decode cX1_follow 104 = .ok (.iconst 1, 1) := by decide +kernel
theorem d_X1_follow_105 : decode cX1_follow 105 = .ok (.iload 9, 2) := by decide +kernel
theorem d_X1_follow_107 : decode cX1_follow 107 = .ok (.isub, 1) := by decide +kernel
theorem d_X1_follow_108 : decode cX1_follow 108 = .ok (.invokevirtual 75, 3) := by decide +kernel
theorem d_X1_follow_111 : decode cX1_follow 111 = .ok (.istore 4, 2) := by decide +kernel
theorem d_X1_follow_113 : decode cX1_follow 113 = .ok (.iinc 7 1, 3) := by decide +kernel
theorem d_X1_follow_116 : decode cX1_follow 116 = .ok (.goto (-106), 3) := by decide +kernel
theorem d_X1_follow_119 : decode cX1_follow 119 = .ok (.return_, 1) := by decide +kernel
def f_X1_follow_102 (k10 : Nat → Int32 → Int64 → Int32 → Mem → Option (Unit × Mem)) (v1 : Nat) (v5 : Int64) (v7 : Int32) (v8 : Nat) (v9 : Int32) (S : Mem) : Option (Unit × Mem) := (if kd v8 = (3, 12) then ((f_X4_thingOn v8 (1 - v9) S).bind fun q108 => (k10 v1 q108.1 v5 (v7 + 1) q108.2)) else none)
set_option maxRecDepth 20000 in
theorem t_X1_follow_102 {X : MC} {Γ : GG} (C : CX X Γ cX1_follow 10 "TickPools$Finder" 5 148) (hr : X.2.2.2.2.2.2.2.2.1.sig.returnType = none) {k10 : Nat → Int32 → Int64 → Int32 → Mem → Option (Unit × Mem)} {q : Unit × Mem} (hk10 : ∀ (v1 : Nat) (v4 : Int32) (v5 : Int64) (v7 : Int32) (S : Mem), k10 v1 v4 v5 v7 S = some q → ZZ X Γ 10 (QQ X Γ none q.2) S 10 [(0, aR 14), (1, aR v1), (4, aI v4), (5, aJ v5), (7, aI v7)] []) (v1 : Nat) (v5 : Int64) (v7 : Int32) (v8 : Nat) (v9 : Int32) (S : Mem) (hf : f_X1_follow_102 k10 v1 v5 v7 v8 v9 S = some q) : ZZ X Γ 10 (QQ X Γ none q.2) S 102 [(0, aR 14), (1, aR v1), (5, aJ v5), (7, aI v7), (8, aR v8), (9, aI v9)] [] := by
  unfold f_X1_follow_102 at hf
  refine z_aload (j := 4) C d_X1_follow_102 rfl ?_
  refine z_iconst (v := 1) C d_X1_follow_104 (by decide) ?_
  refine z_iload (j := 5) C d_X1_follow_105 rfl ?_
  refine z_isub C d_X1_follow_107 ?_
  obtain ⟨hg108_0, hf⟩ := gd hf
  obtain ⟨q108, hF, hf⟩ := bd hf
  refine z_callV1 (rest := []) C [aI (1 - v9)] hg108_0 (by decide) rfl rfl k_X4_thingOn tw_1143 ⟨by decide, by decide⟩ (Nat.le_of_ble_eq_true rfl) d_X1_follow_108 (c_X4_thingOn C.inj hF) rfl ?_
  refine z_istore (lv' := [(4, aI q108.1), (0, aR 14), (1, aR v1), (5, aJ v5), (7, aI v7), (8, aR v8), (9, aI v9)]) C d_X1_follow_111 (by decide) rfl ?_
  refine z_iinc (j := 4) (v := (v7 + 1)) (lv' := [(7, aI (v7 + 1)), (4, aI q108.1), (0, aR 14), (1, aR v1), (5, aJ v5), (8, aR v8), (9, aI v9)]) C d_X1_follow_113 rfl rfl (by decide) rfl ?_
  refine z_goto (tgt := 10) C d_X1_follow_116 (by decide) ?_
  exact z_sub [2, 3, 1, 4, 0] rfl (hk10 _ _ _ _ _ hf)
def f_X1_follow_58 (k10 : Nat → Int32 → Int64 → Int32 → Mem → Option (Unit × Mem)) (v1 : Nat) (v5 : Int64) (v7 : Int32) (v8 : Nat) (s0 : Int32) (S : Mem) : Option (Unit × Mem) := (if s0 = (-1) then (some ((), S)) else (if inb v7 3 = true then ((f_X11_lastTick s0 S).bind fun q86 => ((f_X10_pour v1 (-1) (gI S 15 ((v7 : Int32).toNatClampNeg)) s0 v5 q86.1 1 q86.2).bind fun q90 => (f_X1_follow_102 k10 v1 (gL q90.2 4 11) v7 v8 s0 q90.2))) else none))
set_option maxRecDepth 20000 in
theorem t_X1_follow_58 {X : MC} {Γ : GG} (C : CX X Γ cX1_follow 10 "TickPools$Finder" 5 148) (hr : X.2.2.2.2.2.2.2.2.1.sig.returnType = none) {k10 : Nat → Int32 → Int64 → Int32 → Mem → Option (Unit × Mem)} {q : Unit × Mem} (hk10 : ∀ (v1 : Nat) (v4 : Int32) (v5 : Int64) (v7 : Int32) (S : Mem), k10 v1 v4 v5 v7 S = some q → ZZ X Γ 10 (QQ X Γ none q.2) S 10 [(0, aR 14), (1, aR v1), (4, aI v4), (5, aJ v5), (7, aI v7)] []) (v1 : Nat) (v5 : Int64) (v7 : Int32) (v8 : Nat) (s0 : Int32) (S : Mem) (hf : f_X1_follow_58 k10 v1 v5 v7 v8 s0 S = some q) : ZZ X Γ 10 (QQ X Γ none q.2) S 58 [(0, aR 14), (1, aR v1), (5, aJ v5), (7, aI v7), (8, aR v8)] [aI s0] := by
  unfold f_X1_follow_58 at hf
  refine z_istore (lv' := [(9, aI s0), (0, aR 14), (1, aR v1), (5, aJ v5), (7, aI v7), (8, aR v8)]) C d_X1_follow_58 (by decide) rfl ?_
  refine z_iload (j := 0) C d_X1_follow_60 rfl ?_
  refine z_iconst (v := (-1)) C d_X1_follow_62 (by decide) ?_
  refine z_icmp_ne (tgt := 67) C d_X1_follow_63 (by decide) hf (fun c63 hf => ?_) (fun c63 hf => ?_)
  · refine z_aload_n (j := 1) C d_X1_follow_67 rfl ?_
    refine zg_X1_trade C rfl tw_435 d_X1_follow_68 ?_
    refine z_aload_n (j := 2) C d_X1_follow_71 rfl ?_
    refine z_iconst (v := (-1)) C d_X1_follow_72 (by decide) ?_
    refine z_aload_n (j := 1) C d_X1_follow_73 rfl ?_
    refine zg_X1_best C rfl tw_436 d_X1_follow_74 ?_
    refine z_iload (j := 4) C d_X1_follow_77 rfl ?_
    obtain ⟨hi79_0, hf⟩ := gd hf
    refine z_iald C rfl hi79_0 d_X1_follow_79 ?_
    refine z_iload (j := 0) C d_X1_follow_80 rfl ?_
    refine z_lload (j := 3) C d_X1_follow_82 rfl ?_
    refine z_iload (j := 0) C d_X1_follow_84 rfl ?_
    obtain ⟨q86, hF, hf⟩ := bd hf
    refine z_callSN1 (rest := [aJ v5, aI s0, aI (gI S 15 ((v7 : Int32).toNatClampNeg)), aI (-1), aR v1, aR 4]) C [aI s0] k_X11_lastTick (nw_8) ⟨by decide, by decide⟩ (Nat.le_of_ble_eq_true rfl) d_X1_follow_86 (c_X11_lastTick C.inj hF) rfl ?_
    refine z_iconst (v := 1) C d_X1_follow_89 (by decide) ?_
    obtain ⟨q90, hF, hf⟩ := bd hf
    refine z_callV0 (rest := []) C [aR v1, aI (-1), aI (gI S 15 ((v7 : Int32).toNatClampNeg)), aI s0, aJ v5, aI q86.1, aI 1] rfl (by decide) rfl rfl k_X10_pour tw_1153 ⟨by decide, by decide⟩ (Nat.le_of_ble_eq_true rfl) d_X1_follow_90 (c_X10_pour C.inj hF) rfl ?_
    refine z_aload_n (j := 1) C d_X1_follow_93 rfl ?_
    refine zg_X1_trade C rfl tw_435 d_X1_follow_94 ?_
    refine zg_X10_gave C rfl tw_252 d_X1_follow_97 ?_
    refine z_lstore (lv' := [(5, aJ (gL q90.2 4 11)), (9, aI s0), (0, aR 14), (1, aR v1), (7, aI v7), (8, aR v8)]) C d_X1_follow_100 (by decide) rfl ?_
    exact z_sub [2, 3, 0, 4, 5, 1] rfl (t_X1_follow_102 C hr hk10 _ _ _ _ _ _ hf)
  · exact r_v C hr d_X1_follow_66 hf
def f_X1_follow_119 (S : Mem) : Option (Unit × Mem) := (some ((), S))
set_option maxRecDepth 20000 in
theorem t_X1_follow_119 {X : MC} {Γ : GG} (C : CX X Γ cX1_follow 10 "TickPools$Finder" 5 148) (hr : X.2.2.2.2.2.2.2.2.1.sig.returnType = none) {q : Unit × Mem} (S : Mem) (hf : f_X1_follow_119 S = some q) : ZZ X Γ 10 (QQ X Γ none q.2) S 119 [] [] := by
  unfold f_X1_follow_119 at hf
  exact r_v C hr d_X1_follow_119 hf
def f_X1_follow_10B (k10 : Nat → Int32 → Int64 → Int32 → Mem → Option (Unit × Mem)) (v1 : Nat) (v4 : Int32) (v5 : Int64) (v7 : Int32) (S : Mem) : Option (Unit × Mem) := (if (gI S 14 2) ≤ v7 then (f_X1_follow_119  S) else (if 3 ≤ v7 then (f_X1_follow_119  S) else (if inb v7 3 = true then (if kd v1 = (1, 9) then ((f_X2_poolAt v1 (gI S 15 ((v7 : Int32).toNatClampNeg)) S).bind fun q37 => (if q37.1 = 0 then (f_X1_follow_58 k10 v1 v5 v7 q37.1 (-1) q37.2) else (if kd q37.1 = (3, 12) then ((f_X4_sideOf q37.1 v4 q37.2).bind fun q55 => (f_X1_follow_58 k10 v1 v5 v7 q37.1 q55.1 q55.2)) else none))) else none) else none)))
set_option maxRecDepth 20000 in
theorem t_X1_follow_10B {X : MC} {Γ : GG} (C : CX X Γ cX1_follow 10 "TickPools$Finder" 5 148) (hr : X.2.2.2.2.2.2.2.2.1.sig.returnType = none) {k10 : Nat → Int32 → Int64 → Int32 → Mem → Option (Unit × Mem)} {q : Unit × Mem} (hk10 : ∀ (v1 : Nat) (v4 : Int32) (v5 : Int64) (v7 : Int32) (S : Mem), k10 v1 v4 v5 v7 S = some q → ZZ X Γ 10 (QQ X Γ none q.2) S 10 [(0, aR 14), (1, aR v1), (4, aI v4), (5, aJ v5), (7, aI v7)] []) (v1 : Nat) (v4 : Int32) (v5 : Int64) (v7 : Int32) (S : Mem) (hf : f_X1_follow_10B k10 v1 v4 v5 v7 S = some q) : ZZ X Γ 10 (QQ X Γ none q.2) S 10 [(0, aR 14), (1, aR v1), (4, aI v4), (5, aJ v5), (7, aI v7)] [] := by
  unfold f_X1_follow_10B at hf
  refine z_iload (j := 4) C d_X1_follow_10 rfl ?_
  refine z_aload_n (j := 0) C d_X1_follow_12 rfl ?_
  refine zg_X1_bestLength C rfl tw_433 d_X1_follow_13 ?_
  refine z_icmp_ge (tgt := 119) C d_X1_follow_16 (by decide) hf (fun c16 hf => ?_) (fun c16 hf => ?_)
  · exact z_sub [] rfl (t_X1_follow_119 C hr  _ hf)
  · refine z_iload (j := 4) C d_X1_follow_19 rfl ?_
    refine z_aload_n (j := 0) C d_X1_follow_21 rfl ?_
    refine zg_X1_best C rfl tw_436 d_X1_follow_22 ?_
    refine z_alen (v := 3) C rfl (by decide) (by decide) d_X1_follow_25 ?_
    refine z_icmp_ge (tgt := 119) C d_X1_follow_26 (by decide) hf (fun c26 hf => ?_) (fun c26 hf => ?_)
    · exact z_sub [] rfl (t_X1_follow_119 C hr  _ hf)
    · refine z_aload_n (j := 1) C d_X1_follow_29 rfl ?_
      refine z_aload_n (j := 0) C d_X1_follow_30 rfl ?_
      refine zg_X1_best C rfl tw_436 d_X1_follow_31 ?_
      refine z_iload (j := 4) C d_X1_follow_34 rfl ?_
      obtain ⟨hi36_0, hf⟩ := gd hf
      refine z_iald C rfl hi36_0 d_X1_follow_36 ?_
      obtain ⟨hg37_0, hf⟩ := gd hf
      obtain ⟨q37, hF, hf⟩ := bd hf
      refine z_callV1 (rest := []) C [aI (gI S 15 ((v7 : Int32).toNatClampNeg))] hg37_0 (by decide) rfl rfl k_X2_poolAt tw_1138 ⟨by decide, by decide⟩ (Nat.le_of_ble_eq_true rfl) d_X1_follow_37 (c_X2_poolAt C.inj hF) rfl ?_
      refine z_astore (lv' := [(8, aR q37.1), (0, aR 14), (1, aR v1), (4, aI v4), (5, aJ v5), (7, aI v7)]) C d_X1_follow_40 (by decide) rfl ?_
      refine z_aload (j := 0) C d_X1_follow_42 rfl ?_
      refine z_ifnonnull (tgt := 51) C d_X1_follow_44 (by decide) hf (fun c44 hf => ?_) (fun c44 hf => ?_)
      · refine z_aload (j := 0) C d_X1_follow_51 rfl ?_
        refine z_iload (j := 3) C d_X1_follow_53 rfl ?_
        obtain ⟨hg55_1, hf⟩ := gd hf
        obtain ⟨q55, hF, hf⟩ := bd hf
        refine z_callV1 (rest := []) C [aI v4] hg55_1 (by decide) rfl rfl k_X4_sideOf tw_1139 ⟨by decide, by decide⟩ (Nat.le_of_ble_eq_true rfl) d_X1_follow_55 (c_X4_sideOf C.inj hF) rfl ?_
        exact z_sub [1, 2, 4, 5, 0] rfl (t_X1_follow_58 C hr hk10 _ _ _ _ _ _ hf)
      · refine z_iconst (v := (-1)) C d_X1_follow_47 (by decide) ?_
        refine z_goto (tgt := 58) C d_X1_follow_48 (by decide) ?_
        exact z_sub [1, 2, 4, 5, 0] rfl (t_X1_follow_58 C hr hk10 _ _ _ _ _ _ hf)
def f_X1_follow_10 : Nat → Nat → Int32 → Int64 → Int32 → Mem → Option (Unit × Mem)
  | 0 => fun _ _ _ _ _ => none
  | n + 1 => f_X1_follow_10B (f_X1_follow_10 n)
theorem t_X1_follow_10 {X : MC} {Γ : GG} (C : CX X Γ cX1_follow 10 "TickPools$Finder" 5 148) (hr : X.2.2.2.2.2.2.2.2.1.sig.returnType = none) {q : Unit × Mem} : ∀ (n : Nat) (v1 : Nat) (v4 : Int32) (v5 : Int64) (v7 : Int32) (S : Mem) (hf : f_X1_follow_10 n v1 v4 v5 v7 S = some q), ZZ X Γ 10 (QQ X Γ none q.2) S 10 [(0, aR 14), (1, aR v1), (4, aI v4), (5, aJ v5), (7, aI v7)] []
  | 0, _, _, _, _, _, hf => nomatch (show (none : Option (Unit × Mem)) = some q from hf)
  | n + 1, v1, v4, v5, v7, S, hf => t_X1_follow_10B C hr (t_X1_follow_10 C hr n) v1 v4 v5 v7 S hf
def f_X1_follow_7 (v1 : Nat) (v4 : Int32) (v5 : Int64) (S : Mem) : Option (Unit × Mem) := (f_X1_follow_10  100000 v1 v4 v5 0 S)
set_option maxRecDepth 20000 in
theorem t_X1_follow_7 {X : MC} {Γ : GG} (C : CX X Γ cX1_follow 10 "TickPools$Finder" 5 148) (hr : X.2.2.2.2.2.2.2.2.1.sig.returnType = none) {q : Unit × Mem} (v1 : Nat) (v4 : Int32) (v5 : Int64) (S : Mem) (hf : f_X1_follow_7 v1 v4 v5 S = some q) : ZZ X Γ 10 (QQ X Γ none q.2) S 7 [(0, aR 14), (1, aR v1), (4, aI v4), (5, aJ v5)] [] := by
  unfold f_X1_follow_7 at hf
  refine z_iconst (v := 0) C d_X1_follow_7 (by decide) ?_
  refine z_istore (lv' := [(7, aI 0), (0, aR 14), (1, aR v1), (4, aI v4), (5, aJ v5)]) C d_X1_follow_8 (by decide) rfl ?_
  exact z_sub [1, 2, 3, 4, 0] rfl (t_X1_follow_10 C hr  100000 _ _ _ _ _ hf)
/-- TickPools$Finder.follow(LTickPools$Market;II)V -/
def f_X1_follow (p1 : Nat) (p2 : Int32) (p3 : Int32) (S : Mem) : Option (Unit × Mem) := (f_X1_follow_7  p1 p2 (p3.toInt64) S)
set_option maxRecDepth 20000 in
theorem c_X1_follow {l : Launch} {Γ : GG} (hI : Inj Γ) {p1 : Nat} {p2 : Int32} {p3 : Int32} {S : Mem} {q : Unit × Mem} (hf : f_X1_follow p1 p2 p3 S = some q) : MM l Γ yX1_follow cX1_follow 10 (none) 5 148 [aR 14, aR p1, aI p2, aI p3] S none q.2 := by
  refine met_of hI "TickPools$Finder" rfl (by decide +kernel) (Nat.le_of_ble_eq_true rfl) (fun X hX C hr => ?_)
  unfold f_X1_follow at hf
  show ZZ X Γ 10 _ S 0 [(0, aR 14), (1, aR p1), (2, aI p2), (3, aI p3)] []
  refine z_iload_n (j := 2) C d_X1_follow_0 rfl ?_
  refine z_istore (lv' := [(4, aI p2), (0, aR 14), (1, aR p1), (2, aI p2), (3, aI p3)]) C d_X1_follow_1 (by decide) rfl ?_
  refine z_iload_n (j := 4) C d_X1_follow_3 rfl ?_
  refine z_i2l C d_X1_follow_4 ?_
  refine z_lstore (lv' := [(5, aJ (p3.toInt64)), (4, aI p2), (0, aR 14), (1, aR p1), (2, aI p2), (3, aI p3)]) C d_X1_follow_5 (by decide) rfl ?_
  exact z_sub [2, 3, 1, 0] rfl (t_X1_follow_7 C hr  _ _ _ _ hf)
theorem d_X2_clear_0 : decode cX2_clear 0 = .ok (.aload_n 0, 1) := by decide +kernel
theorem d_X2_clear_1 : decode cX2_clear 1 = .ok (.iconst 0, 1) := by decide +kernel
theorem d_X2_clear_2 : decode cX2_clear 2 = .ok (.putfield 29, 3) := by decide +kernel
theorem d_X2_clear_5 : decode cX2_clear 5 = .ok (.aload_n 0, 1) := by decide +kernel
theorem d_X2_clear_6 : decode cX2_clear 6 = .ok (.iconst 0, 1) := by decide +kernel
theorem d_X2_clear_7 : decode cX2_clear 7 = .ok (.putfield 33, 3) := by decide +kernel
theorem d_X2_clear_10 : decode cX2_clear 10 = .ok (.aload_n 0, 1) := by decide +kernel
theorem d_X2_clear_11 : decode cX2_clear 11 = .ok (.iconst 0, 1) := by decide +kernel
theorem d_X2_clear_12 : decode cX2_clear 12 = .ok (.putfield 36, 3) := by decide +kernel
theorem d_X2_clear_15 : decode cX2_clear 15 = .ok (.aload_n 0, 1) := by decide +kernel
theorem d_X2_clear_16 : decode cX2_clear 16 = .ok (.iconst 0, 1) := by decide +kernel
theorem d_X2_clear_17 : decode cX2_clear 17 = .ok (.putfield 39, 3) := by decide +kernel
theorem d_X2_clear_20 : decode cX2_clear 20 = .ok (.aload_n 0, 1) := by decide +kernel
theorem d_X2_clear_21 : decode cX2_clear 21 = .ok (.iconst 0, 1) := by decide +kernel
theorem d_X2_clear_22 : decode cX2_clear 22 = .ok (.putfield 42, 3) := by decide +kernel
theorem d_X2_clear_25 : decode cX2_clear 25 = .ok (.aload_n 0, 1) := by decide +kernel
theorem d_X2_clear_26 : decode cX2_clear 26 = .ok (.iconst 0, 1) := by decide +kernel
theorem d_X2_clear_27 : decode cX2_clear 27 = .ok (.putfield 45, 3) := by decide +kernel
theorem d_X2_clear_30 : decode cX2_clear 30 = .ok (.iconst 0, 1) := by decide +kernel
theorem d_X2_clear_31 : decode cX2_clear 31 = .ok (.istore_n 1, 1) := by decide +kernel
theorem d_X2_clear_32 : decode cX2_clear 32 = .ok (.iload_n 1, 1) := by decide +kernel
theorem d_X2_clear_33 : decode cX2_clear 33 = .ok (.aload_n 0, 1) := by decide +kernel
theorem d_X2_clear_34 : decode cX2_clear 34 = .ok (.getfield 9, 3) := by decide +kernel
theorem d_X2_clear_37 : decode cX2_clear 37 = .ok (.arraylength, 1) := by decide +kernel
theorem d_X2_clear_38 : decode cX2_clear 38 = .ok (.if_icmp .ge 16, 3) := by decide +kernel
theorem d_X2_clear_41 : decode cX2_clear 41 = .ok (.aload_n 0, 1) := by decide +kernel
theorem d_X2_clear_42 : decode cX2_clear 42 = .ok (.getfield 9, 3) := by decide +kernel
theorem d_X2_clear_45 : decode cX2_clear 45 = .ok (.iload_n 1, 1) := by decide +kernel
theorem d_X2_clear_46 : decode cX2_clear 46 = .ok (.iconst 0, 1) := by decide +kernel
theorem d_X2_clear_47 : decode cX2_clear 47 = .ok (.iastore, 1) := by decide +kernel
theorem d_X2_clear_48 : decode cX2_clear 48 = .ok (.iinc 1 1, 3) := by decide +kernel
theorem d_X2_clear_51 : decode cX2_clear 51 = .ok (.goto (-19), 3) := by decide +kernel
theorem d_X2_clear_54 : decode cX2_clear 54 = .ok (.return_, 1) := by decide +kernel
def f_X2_clear_32B (k32 : Nat → Int32 → Mem → Option (Unit × Mem)) (v0 : Nat) (v1 : Int32) (S : Mem) : Option (Unit × Mem) := (if kd v0 = (1, 9) then (if 20 ≤ v1 then (some ((), S)) else (if inb v1 20 = true then (k32 v0 (v1 + 1) (sI S (v0 + 1) ((v1 : Int32).toNatClampNeg) 0)) else none)) else none)
set_option maxRecDepth 20000 in
theorem t_X2_clear_32B {X : MC} {Γ : GG} (C : CX X Γ cX2_clear 2 "TickPools$Market" 0 0) (hr : X.2.2.2.2.2.2.2.2.1.sig.returnType = none) {k32 : Nat → Int32 → Mem → Option (Unit × Mem)} {q : Unit × Mem} (hk32 : ∀ (v0 : Nat) (v1 : Int32) (S : Mem), k32 v0 v1 S = some q → ZZ X Γ 2 (QQ X Γ none q.2) S 32 [(0, aR v0), (1, aI v1)] []) (v0 : Nat) (v1 : Int32) (S : Mem) (hf : f_X2_clear_32B k32 v0 v1 S = some q) : ZZ X Γ 2 (QQ X Γ none q.2) S 32 [(0, aR v0), (1, aI v1)] [] := by
  unfold f_X2_clear_32B at hf
  refine z_iload_n (j := 1) C d_X2_clear_32 rfl ?_
  refine z_aload_n (j := 0) C d_X2_clear_33 rfl ?_
  obtain ⟨hg34_0, hf⟩ := gd hf
  refine zg_X2_purses C hg34_0 tw_208 d_X2_clear_34 ?_
  refine z_alen (v := 20) C (kdM1 hg34_0) (by decide) (by decide) d_X2_clear_37 ?_
  refine z_icmp_ge (tgt := 54) C d_X2_clear_38 (by decide) hf (fun c38 hf => ?_) (fun c38 hf => ?_)
  · exact r_v C hr d_X2_clear_54 hf
  · refine z_aload_n (j := 0) C d_X2_clear_41 rfl ?_
    refine zg_X2_purses C hg34_0 tw_208 d_X2_clear_42 ?_
    refine z_iload_n (j := 1) C d_X2_clear_45 rfl ?_
    refine z_iconst (v := 0) C d_X2_clear_46 (by decide) ?_
    obtain ⟨hi47_0, hf⟩ := gd hf
    refine z_iast C (kdM1 hg34_0) hi47_0 d_X2_clear_47 ?_
    refine z_iinc (j := 1) (v := (v1 + 1)) (lv' := [(1, aI (v1 + 1)), (0, aR v0)]) C d_X2_clear_48 rfl rfl (by decide) rfl ?_
    refine z_goto (tgt := 32) C d_X2_clear_51 (by decide) ?_
    exact z_sub [1, 0] rfl (hk32 _ _ _ hf)
def f_X2_clear_32 : Nat → Nat → Int32 → Mem → Option (Unit × Mem)
  | 0 => fun _ _ _ => none
  | n + 1 => f_X2_clear_32B (f_X2_clear_32 n)
theorem t_X2_clear_32 {X : MC} {Γ : GG} (C : CX X Γ cX2_clear 2 "TickPools$Market" 0 0) (hr : X.2.2.2.2.2.2.2.2.1.sig.returnType = none) {q : Unit × Mem} : ∀ (n : Nat) (v0 : Nat) (v1 : Int32) (S : Mem) (hf : f_X2_clear_32 n v0 v1 S = some q), ZZ X Γ 2 (QQ X Γ none q.2) S 32 [(0, aR v0), (1, aI v1)] []
  | 0, _, _, _, hf => nomatch (show (none : Option (Unit × Mem)) = some q from hf)
  | n + 1, v0, v1, S, hf => t_X2_clear_32B C hr (t_X2_clear_32 C hr n) v0 v1 S hf
def f_X2_clear_30 (v0 : Nat) (S : Mem) : Option (Unit × Mem) := (f_X2_clear_32  100000 v0 0 S)
set_option maxRecDepth 20000 in
theorem t_X2_clear_30 {X : MC} {Γ : GG} (C : CX X Γ cX2_clear 2 "TickPools$Market" 0 0) (hr : X.2.2.2.2.2.2.2.2.1.sig.returnType = none) {q : Unit × Mem} (v0 : Nat) (S : Mem) (hf : f_X2_clear_30 v0 S = some q) : ZZ X Γ 2 (QQ X Γ none q.2) S 30 [(0, aR v0)] [] := by
  unfold f_X2_clear_30 at hf
  refine z_iconst (v := 0) C d_X2_clear_30 (by decide) ?_
  refine z_istore_n (lv' := [(1, aI 0), (0, aR v0)]) C d_X2_clear_31 (by decide) rfl ?_
  exact z_sub [1, 0] rfl (t_X2_clear_32 C hr  100000 _ _ _ hf)
def f_X2_clear_15 (v0 : Nat) (S : Mem) : Option (Unit × Mem) := (if kd v0 = (1, 9) then (f_X2_clear_30  v0 (sI (sI (sI S v0 3 0) v0 4 0) v0 5 0)) else none)
set_option maxRecDepth 20000 in
theorem t_X2_clear_15 {X : MC} {Γ : GG} (C : CX X Γ cX2_clear 2 "TickPools$Market" 0 0) (hr : X.2.2.2.2.2.2.2.2.1.sig.returnType = none) {q : Unit × Mem} (v0 : Nat) (S : Mem) (hf : f_X2_clear_15 v0 S = some q) : ZZ X Γ 2 (QQ X Γ none q.2) S 15 [(0, aR v0)] [] := by
  unfold f_X2_clear_15 at hf
  refine z_aload_n (j := 0) C d_X2_clear_15 rfl ?_
  refine z_iconst (v := 0) C d_X2_clear_16 (by decide) ?_
  obtain ⟨hg17_0, hf⟩ := gd hf
  refine zp_X2_stakes C hg17_0 tw_200 d_X2_clear_17 ?_
  refine z_aload_n (j := 0) C d_X2_clear_20 rfl ?_
  refine z_iconst (v := 0) C d_X2_clear_21 (by decide) ?_
  refine zp_X2_time C hg17_0 tw_202 d_X2_clear_22 ?_
  refine z_aload_n (j := 0) C d_X2_clear_25 rfl ?_
  refine z_iconst (v := 0) C d_X2_clear_26 (by decide) ?_
  refine zp_X2_crossed C hg17_0 tw_205 d_X2_clear_27 ?_
  exact z_sub [0] rfl (t_X2_clear_30 C hr  _ _ hf)
/-- TickPools$Market.clear()V -/
def f_X2_clear (h0 : Nat) (S : Mem) : Option (Unit × Mem) := (if kd h0 = (1, 9) then (f_X2_clear_15  h0 (sI (sI (sI S h0 0 0) h0 1 0) h0 2 0)) else none)
set_option maxRecDepth 20000 in
theorem c_X2_clear {l : Launch} {Γ : GG} (hI : Inj Γ) {h0 : Nat} {S : Mem} {q : Unit × Mem} (hf : f_X2_clear h0 S = some q) : MM l Γ yX2_clear cX2_clear 2 (none) 0 0 [aR h0] S none q.2 := by
  refine met_of hI "TickPools$Market" rfl (by decide +kernel) (Nat.le_of_ble_eq_true rfl) (fun X hX C hr => ?_)
  unfold f_X2_clear at hf
  show ZZ X Γ 2 _ S 0 [(0, aR h0)] []
  refine z_aload_n (j := 0) C d_X2_clear_0 rfl ?_
  refine z_iconst (v := 0) C d_X2_clear_1 (by decide) ?_
  obtain ⟨hg2_0, hf⟩ := gd hf
  refine zp_X2_things C hg2_0 tw_190 d_X2_clear_2 ?_
  refine z_aload_n (j := 0) C d_X2_clear_5 rfl ?_
  refine z_iconst (v := 0) C d_X2_clear_6 (by decide) ?_
  refine zp_X2_people C hg2_0 tw_193 d_X2_clear_7 ?_
  refine z_aload_n (j := 0) C d_X2_clear_10 rfl ?_
  refine z_iconst (v := 0) C d_X2_clear_11 (by decide) ?_
  refine zp_X2_pools C hg2_0 tw_196 d_X2_clear_12 ?_
  exact z_sub [0] rfl (t_X2_clear_15 C hr  _ _ hf)
theorem d_X4_copyFrom_0 : decode cX4_copyFrom 0 = .ok (.aload_n 0, 1) := by decide +kernel
theorem d_X4_copyFrom_1 : decode cX4_copyFrom 1 = .ok (.aload_n 1, 1) := by decide +kernel
theorem d_X4_copyFrom_2 : decode cX4_copyFrom 2 = .ok (.getfield 44, 3) := by decide +kernel
theorem d_X4_copyFrom_5 : decode cX4_copyFrom 5 = .ok (.putfield 44, 3) := by decide +kernel
theorem d_X4_copyFrom_8 : decode cX4_copyFrom 8 = .ok (.aload_n 0, 1) := by decide +kernel
theorem d_X4_copyFrom_9 : decode cX4_copyFrom 9 = .ok (.aload_n 1, 1) := by decide +kernel
theorem d_X4_copyFrom_10 : decode cX4_copyFrom 10 = .ok (.getfield 47, 3) := by decide +kernel
theorem d_X4_copyFrom_13 : decode cX4_copyFrom 13 = .ok (.putfield 47, 3) := by decide +kernel
theorem d_X4_copyFrom_16 : decode cX4_copyFrom 16 = .ok (.aload_n 0, 1) := by decide +kernel
theorem d_X4_copyFrom_17 : decode cX4_copyFrom 17 = .ok (.aload_n 1, 1) := by decide +kernel
theorem d_X4_copyFrom_18 : decode cX4_copyFrom 18 = .ok (.getfield 50, 3) := by decide +kernel
theorem d_X4_copyFrom_21 : decode cX4_copyFrom 21 = .ok (.putfield 50, 3) := by decide +kernel
theorem d_X4_copyFrom_24 : decode cX4_copyFrom 24 = .ok (.aload_n 0, 1) := by decide +kernel
theorem d_X4_copyFrom_25 : decode cX4_copyFrom 25 = .ok (.aload_n 1, 1) := by decide +kernel
theorem d_X4_copyFrom_26 : decode cX4_copyFrom 26 = .ok (.getfield 53, 3) := by decide +kernel
theorem d_X4_copyFrom_29 : decode cX4_copyFrom 29 = .ok (.putfield 53, 3) := by decide +kernel
theorem d_X4_copyFrom_32 : decode cX4_copyFrom 32 = .ok (.aload_n 0, 1) := by decide +kernel
theorem d_X4_copyFrom_33 : decode cX4_copyFrom 33 = .ok (.aload_n 1, 1) := by decide +kernel
theorem d_X4_copyFrom_34 : decode cX4_copyFrom 34 = .ok (.getfield 56, 3) := by decide +kernel
theorem d_X4_copyFrom_37 : decode cX4_copyFrom 37 = .ok (.putfield 56, 3) := by decide +kernel
theorem d_X4_copyFrom_40 : decode cX4_copyFrom 40 = .ok (.aload_n 0, 1) := by decide +kernel
theorem d_X4_copyFrom_41 : decode cX4_copyFrom 41 = .ok (.aload_n 1, 1) := by decide +kernel
theorem d_X4_copyFrom_42 : decode cX4_copyFrom 42 = .ok (.getfield 30, 3) := by decide +kernel
theorem d_X4_copyFrom_45 : decode cX4_copyFrom 45 = .ok (.putfield 30, 3) := by decide +kernel
theorem d_X4_copyFrom_48 : decode cX4_copyFrom 48 = .ok (.aload_n 0, 1) := by decide +kernel
theorem d_X4_copyFrom_49 : decode cX4_copyFrom 49 = .ok (.aload_n 1, 1) := by decide +kernel
theorem d_X4_copyFrom_50 : decode cX4_copyFrom 50 = .ok (.getfield 38, 3) := by decide +kernel
theorem d_X4_copyFrom_53 : decode cX4_copyFrom 53 = .ok (.putfield 38, 3) := by decide +kernel
theorem d_X4_copyFrom_56 : decode cX4_copyFrom 56 = .ok (.aload_n 0, 1) := by decide +kernel
theorem d_X4_copyFrom_57 : decode cX4_copyFrom 57 = .ok (.aload_n 1, 1) := by decide +kernel
theorem d_X4_copyFrom_58 : decode cX4_copyFrom 58 = .ok (.getfield 41, 3) := by decide +kernel
theorem d_X4_copyFrom_61 : decode cX4_copyFrom 61 = .ok (.putfield 41, 3) := by decide +kernel
theorem d_X4_copyFrom_64 : decode cX4_copyFrom 64 = .ok (.aload_n 1, 1) := by decide +kernel
theorem d_X4_copyFrom_65 : decode cX4_copyFrom 65 = .ok (.getfield 9, 3) := by decide +kernel
theorem d_X4_copyFrom_68 : decode cX4_copyFrom 68 = .ok (.iconst 0, 1) := by decide +kernel
theorem d_X4_copyFrom_69 : decode cX4_copyFrom 69 = .ok (.aload_n 0, 1) := by decide +kernel
theorem d_X4_copyFrom_70 : decode cX4_copyFrom 70 = .ok (.getfield 9, 3) := by decide +kernel
theorem d_X4_copyFrom_73 : decode cX4_copyFrom 73 = .ok (.iconst 0, 1) := by decide +kernel
theorem d_X4_copyFrom_74 : decode cX4_copyFrom 74 = .ok (.iconst 2, 1) := by decide +kernel
theorem d_X4_copyFrom_75 : decode cX4_copyFrom 75 = .ok (.invokestatic 59, 3) := by decide +kernel
theorem d_X4_copyFrom_78 : decode cX4_copyFrom 78 = .ok (.aload_n 1, 1) := by decide +kernel
theorem d_X4_copyFrom_79 : decode cX4_copyFrom 79 = .ok (.getfield 15, 3) := by decide +kernel
theorem d_X4_copyFrom_82 : decode cX4_copyFrom 82 = .ok (.iconst 0, 1) := by decide +kernel
theorem d_X4_copyFrom_83 : decode cX4_copyFrom 83 = .ok (.aload_n 0, 1) := by decide +kernel
theorem d_X4_copyFrom_84 : decode cX4_copyFrom 84 = .ok (.getfield 15, 3) := by decide +kernel
theorem d_X4_copyFrom_87 : decode cX4_copyFrom 87 = .ok (.iconst 0, 1) := by decide +kernel
theorem d_X4_copyFrom_88 : decode cX4_copyFrom 88 = .ok (.iconst 2, 1) := by decide +kernel
theorem d_X4_copyFrom_89 : decode cX4_copyFrom 89 = .ok (.invokestatic 59, 3) := by decide +kernel
theorem d_X4_copyFrom_92 : decode cX4_copyFrom 92 = .ok (.aload_n 1, 1) := by decide +kernel
theorem d_X4_copyFrom_93 : decode cX4_copyFrom 93 = .ok (.getfield 18, 3) := by decide +kernel
theorem d_X4_copyFrom_96 : decode cX4_copyFrom 96 = .ok (.iconst 0, 1) := by decide +kernel
theorem d_X4_copyFrom_97 : decode cX4_copyFrom 97 = .ok (.aload_n 0, 1) := by decide +kernel
theorem d_X4_copyFrom_98 : decode cX4_copyFrom 98 = .ok (.getfield 18, 3) := by decide +kernel
theorem d_X4_copyFrom_101 : decode cX4_copyFrom 101 = .ok (.iconst 0, 1) := by decide +kernel
theorem d_X4_copyFrom_102 : decode cX4_copyFrom 102 = .ok (.bipush 8, 2) := by decide +kernel
theorem d_X4_copyFrom_104 : decode cX4_copyFrom 104 = .ok (.invokestatic 59, 3) := by decide +kernel
theorem d_X4_copyFrom_107 : decode cX4_copyFrom 107 = .ok (.aload_n 1, 1) := by decide +kernel
theorem d_X4_copyFrom_108 : decode cX4_copyFrom 108 = .ok (.getfield 21, 3) := by decide +kernel
theorem d_X4_copyFrom_111 : decode cX4_copyFrom 111 = .ok (.iconst 0, 1) := by decide +kernel
theorem d_X4_copyFrom_112 : decode cX4_copyFrom 112 = .ok (.aload_n 0, 1) := by decide +kernel
theorem d_X4_copyFrom_113 : decode cX4_copyFrom 113 = .ok (.getfield 21, 3) := by decide +kernel
theorem d_X4_copyFrom_116 : decode cX4_copyFrom 116 = .ok (.iconst 0, 1) := by decide +kernel
theorem d_X4_copyFrom_117 : decode cX4_copyFrom 117 = .ok (.bipush 8, 2) := by decide +kernel
theorem d_X4_copyFrom_119 : decode cX4_copyFrom 119 = .ok (.invokestatic 59, 3) := by decide +kernel
theorem d_X4_copyFrom_122 : decode cX4_copyFrom 122 = .ok (.return_, 1) := by decide +kernel
def f_X4_copyFrom_78 (v0 : Nat) (v1 : Nat) (S : Mem) : Option (Unit × Mem) := (if kd v1 = (3, 12) then (if kd v0 = (3, 12) then (some ((), (cpI (cpI (cpI S (v1 + 2) ((0 : Int32).toNatClampNeg) (v0 + 2) ((0 : Int32).toNatClampNeg) ((2 : Int32).toNatClampNeg)) (v1 + 3) ((0 : Int32).toNatClampNeg) (v0 + 3) ((0 : Int32).toNatClampNeg) ((8 : Int32).toNatClampNeg)) (v1 + 4) ((0 : Int32).toNatClampNeg) (v0 + 4) ((0 : Int32).toNatClampNeg) ((8 : Int32).toNatClampNeg)))) else none) else none)
set_option maxRecDepth 20000 in
theorem t_X4_copyFrom_78 {X : MC} {Γ : GG} (C : CX X Γ cX4_copyFrom 2 "TickPools$Pool" 1 40) (hr : X.2.2.2.2.2.2.2.2.1.sig.returnType = none) {q : Unit × Mem} (v0 : Nat) (v1 : Nat) (S : Mem) (hf : f_X4_copyFrom_78 v0 v1 S = some q) : ZZ X Γ 2 (QQ X Γ none q.2) S 78 [(0, aR v0), (1, aR v1)] [] := by
  unfold f_X4_copyFrom_78 at hf
  refine z_aload_n (j := 1) C d_X4_copyFrom_78 rfl ?_
  obtain ⟨hg79_0, hf⟩ := gd hf
  refine zg_X4_house C hg79_0 tw_110 d_X4_copyFrom_79 ?_
  refine z_iconst (v := 0) C d_X4_copyFrom_82 (by decide) ?_
  refine z_aload_n (j := 0) C d_X4_copyFrom_83 rfl ?_
  obtain ⟨hg84_1, hf⟩ := gd hf
  refine zg_X4_house C hg84_1 tw_110 d_X4_copyFrom_84 ?_
  refine z_iconst (v := 0) C d_X4_copyFrom_87 (by decide) ?_
  refine z_iconst (v := 2) C d_X4_copyFrom_88 (by decide) ?_
  refine z_copy C tw_670 (kdP2 hg79_0) (kdP2 hg84_1) (by decide) (by decide) (by decide) (by decide) (by decide) (by decide) (Nat.le_of_ble_eq_true rfl) d_X4_copyFrom_89 ?_
  refine z_aload_n (j := 1) C d_X4_copyFrom_92 rfl ?_
  refine zg_X4_markTime C hg79_0 tw_113 d_X4_copyFrom_93 ?_
  refine z_iconst (v := 0) C d_X4_copyFrom_96 (by decide) ?_
  refine z_aload_n (j := 0) C d_X4_copyFrom_97 rfl ?_
  refine zg_X4_markTime C hg84_1 tw_113 d_X4_copyFrom_98 ?_
  refine z_iconst (v := 0) C d_X4_copyFrom_101 (by decide) ?_
  refine z_bipush (v := 8) C d_X4_copyFrom_102 (by decide) ?_
  refine z_copy C tw_670 (kdP3 hg79_0) (kdP3 hg84_1) (by decide) (by decide) (by decide) (by decide) (by decide) (by decide) (Nat.le_of_ble_eq_true rfl) d_X4_copyFrom_104 ?_
  refine z_aload_n (j := 1) C d_X4_copyFrom_107 rfl ?_
  refine zg_X4_markSum C hg79_0 tw_114 d_X4_copyFrom_108 ?_
  refine z_iconst (v := 0) C d_X4_copyFrom_111 (by decide) ?_
  refine z_aload_n (j := 0) C d_X4_copyFrom_112 rfl ?_
  refine zg_X4_markSum C hg84_1 tw_114 d_X4_copyFrom_113 ?_
  refine z_iconst (v := 0) C d_X4_copyFrom_116 (by decide) ?_
  refine z_bipush (v := 8) C d_X4_copyFrom_117 (by decide) ?_
  refine z_copy C tw_670 (kdP4 hg79_0) (kdP4 hg84_1) (by decide) (by decide) (by decide) (by decide) (by decide) (by decide) (Nat.le_of_ble_eq_true rfl) d_X4_copyFrom_119 ?_
  exact r_v C hr d_X4_copyFrom_122 hf
def f_X4_copyFrom_48 (v0 : Nat) (v1 : Nat) (S : Mem) : Option (Unit × Mem) := (if kd v1 = (3, 12) then (if kd v0 = (3, 12) then (f_X4_copyFrom_78  v0 v1 (cpI (sI (sI S v0 6 (gI S v1 6)) v0 7 (gI (sI S v0 6 (gI S v1 6)) v1 7)) (v1 + 1) ((0 : Int32).toNatClampNeg) (v0 + 1) ((0 : Int32).toNatClampNeg) ((2 : Int32).toNatClampNeg))) else none) else none)
set_option maxRecDepth 20000 in
theorem t_X4_copyFrom_48 {X : MC} {Γ : GG} (C : CX X Γ cX4_copyFrom 2 "TickPools$Pool" 1 40) (hr : X.2.2.2.2.2.2.2.2.1.sig.returnType = none) {q : Unit × Mem} (v0 : Nat) (v1 : Nat) (S : Mem) (hf : f_X4_copyFrom_48 v0 v1 S = some q) : ZZ X Γ 2 (QQ X Γ none q.2) S 48 [(0, aR v0), (1, aR v1)] [] := by
  unfold f_X4_copyFrom_48 at hf
  refine z_aload_n (j := 0) C d_X4_copyFrom_48 rfl ?_
  refine z_aload_n (j := 1) C d_X4_copyFrom_49 rfl ?_
  obtain ⟨hg50_0, hf⟩ := gd hf
  refine zg_X4_zone C hg50_0 tw_99 d_X4_copyFrom_50 ?_
  obtain ⟨hg53_1, hf⟩ := gd hf
  refine zp_X4_zone C hg53_1 tw_99 d_X4_copyFrom_53 ?_
  refine z_aload_n (j := 0) C d_X4_copyFrom_56 rfl ?_
  refine z_aload_n (j := 1) C d_X4_copyFrom_57 rfl ?_
  refine zg_X4_marks C hg50_0 tw_105 d_X4_copyFrom_58 ?_
  refine zp_X4_marks C hg53_1 tw_105 d_X4_copyFrom_61 ?_
  refine z_aload_n (j := 1) C d_X4_copyFrom_64 rfl ?_
  refine zg_X4_held C hg50_0 tw_106 d_X4_copyFrom_65 ?_
  refine z_iconst (v := 0) C d_X4_copyFrom_68 (by decide) ?_
  refine z_aload_n (j := 0) C d_X4_copyFrom_69 rfl ?_
  refine zg_X4_held C hg53_1 tw_106 d_X4_copyFrom_70 ?_
  refine z_iconst (v := 0) C d_X4_copyFrom_73 (by decide) ?_
  refine z_iconst (v := 2) C d_X4_copyFrom_74 (by decide) ?_
  refine z_copy C tw_670 (kdP1 hg50_0) (kdP1 hg53_1) (by decide) (by decide) (by decide) (by decide) (by decide) (by decide) (Nat.le_of_ble_eq_true rfl) d_X4_copyFrom_75 ?_
  exact z_sub [0, 1] rfl (t_X4_copyFrom_78 C hr  _ _ _ hf)
def f_X4_copyFrom_24 (v0 : Nat) (v1 : Nat) (S : Mem) : Option (Unit × Mem) := (if kd v1 = (3, 12) then (if kd v0 = (3, 12) then (f_X4_copyFrom_48  v0 v1 (sI (sI (sI S v0 3 (gI S v1 3)) v0 4 (gI (sI S v0 3 (gI S v1 3)) v1 4)) v0 5 (gI (sI (sI S v0 3 (gI S v1 3)) v0 4 (gI (sI S v0 3 (gI S v1 3)) v1 4)) v1 5))) else none) else none)
set_option maxRecDepth 20000 in
theorem t_X4_copyFrom_24 {X : MC} {Γ : GG} (C : CX X Γ cX4_copyFrom 2 "TickPools$Pool" 1 40) (hr : X.2.2.2.2.2.2.2.2.1.sig.returnType = none) {q : Unit × Mem} (v0 : Nat) (v1 : Nat) (S : Mem) (hf : f_X4_copyFrom_24 v0 v1 S = some q) : ZZ X Γ 2 (QQ X Γ none q.2) S 24 [(0, aR v0), (1, aR v1)] [] := by
  unfold f_X4_copyFrom_24 at hf
  refine z_aload_n (j := 0) C d_X4_copyFrom_24 rfl ?_
  refine z_aload_n (j := 1) C d_X4_copyFrom_25 rfl ?_
  obtain ⟨hg26_0, hf⟩ := gd hf
  refine zg_X4_cut C hg26_0 tw_87 d_X4_copyFrom_26 ?_
  obtain ⟨hg29_1, hf⟩ := gd hf
  refine zp_X4_cut C hg29_1 tw_87 d_X4_copyFrom_29 ?_
  refine z_aload_n (j := 0) C d_X4_copyFrom_32 rfl ?_
  refine z_aload_n (j := 1) C d_X4_copyFrom_33 rfl ?_
  refine zg_X4_spacing C hg26_0 tw_91 d_X4_copyFrom_34 ?_
  refine zp_X4_spacing C hg29_1 tw_91 d_X4_copyFrom_37 ?_
  refine z_aload_n (j := 0) C d_X4_copyFrom_40 rfl ?_
  refine z_aload_n (j := 1) C d_X4_copyFrom_41 rfl ?_
  refine zg_X4_root C hg26_0 tw_95 d_X4_copyFrom_42 ?_
  refine zp_X4_root C hg29_1 tw_95 d_X4_copyFrom_45 ?_
  exact z_sub [0, 1] rfl (t_X4_copyFrom_48 C hr  _ _ _ hf)
/-- TickPools$Pool.copyFrom(LTickPools$Pool;)V -/
def f_X4_copyFrom (h0 : Nat) (p1 : Nat) (S : Mem) : Option (Unit × Mem) := (if kd p1 = (3, 12) then (if kd h0 = (3, 12) then (f_X4_copyFrom_24  h0 p1 (sI (sI (sI S h0 0 (gI S p1 0)) h0 1 (gI (sI S h0 0 (gI S p1 0)) p1 1)) h0 2 (gI (sI (sI S h0 0 (gI S p1 0)) h0 1 (gI (sI S h0 0 (gI S p1 0)) p1 1)) p1 2))) else none) else none)
set_option maxRecDepth 20000 in
theorem c_X4_copyFrom {l : Launch} {Γ : GG} (hI : Inj Γ) {h0 : Nat} {p1 : Nat} {S : Mem} {q : Unit × Mem} (hf : f_X4_copyFrom h0 p1 S = some q) : MM l Γ yX4_copyFrom cX4_copyFrom 2 (none) 1 40 [aR h0, aR p1] S none q.2 := by
  refine met_of hI "TickPools$Pool" rfl (by decide +kernel) (Nat.le_of_ble_eq_true rfl) (fun X hX C hr => ?_)
  unfold f_X4_copyFrom at hf
  show ZZ X Γ 2 _ S 0 [(0, aR h0), (1, aR p1)] []
  refine z_aload_n (j := 0) C d_X4_copyFrom_0 rfl ?_
  refine z_aload_n (j := 1) C d_X4_copyFrom_1 rfl ?_
  obtain ⟨hg2_0, hf⟩ := gd hf
  refine zg_X4_first C hg2_0 tw_74 d_X4_copyFrom_2 ?_
  obtain ⟨hg5_1, hf⟩ := gd hf
  refine zp_X4_first C hg5_1 tw_74 d_X4_copyFrom_5 ?_
  refine z_aload_n (j := 0) C d_X4_copyFrom_8 rfl ?_
  refine z_aload_n (j := 1) C d_X4_copyFrom_9 rfl ?_
  refine zg_X4_second C hg2_0 tw_78 d_X4_copyFrom_10 ?_
  refine zp_X4_second C hg5_1 tw_78 d_X4_copyFrom_13 ?_
  refine z_aload_n (j := 0) C d_X4_copyFrom_16 rfl ?_
  refine z_aload_n (j := 1) C d_X4_copyFrom_17 rfl ?_
  refine zg_X4_fee C hg2_0 tw_82 d_X4_copyFrom_18 ?_
  refine zp_X4_fee C hg5_1 tw_82 d_X4_copyFrom_21 ?_
  exact z_sub [0, 1] rfl (t_X4_copyFrom_24 C hr  _ _ _ hf)
theorem d_X7_open_0 : decode cX7_open 0 = .ok (.aload_n 0, 1) := by decide +kernel
theorem d_X7_open_1 : decode cX7_open 1 = .ok (.iload_n 1, 1) := by decide +kernel
theorem d_X7_open_2 : decode cX7_open 2 = .ok (.putfield 16, 3) := by decide +kernel
theorem d_X7_open_5 : decode cX7_open 5 = .ok (.aload_n 0, 1) := by decide +kernel
theorem d_X7_open_6 : decode cX7_open 6 = .ok (.iload_n 2, 1) := by decide +kernel
theorem d_X7_open_7 : decode cX7_open 7 = .ok (.putfield 20, 3) := by decide +kernel
theorem d_X7_open_10 : decode cX7_open 10 = .ok (.aload_n 0, 1) := by decide +kernel
theorem d_X7_open_11 : decode cX7_open 11 = .ok (.iload_n 3, 1) := by decide +kernel
theorem d_X7_open_12 : decode cX7_open 12 = .ok (.putfield 23, 3) := by decide +kernel
theorem d_X7_open_15 : decode cX7_open 15 = .ok (.aload_n 0, 1) := by decide +kernel
theorem d_X7_open_16 : decode cX7_open 16 = .ok (.iload 4, 2) := by decide +kernel
theorem d_X7_open_18 : decode cX7_open 18 = .ok (.putfield 26, 3) := by decide +kernel
theorem d_X7_open_21 : decode cX7_open 21 = .ok (.aload_n 0, 1) := by decide +kernel
theorem d_X7_open_22 : decode cX7_open 22 = .ok (.iload 5, 2) := by decide +kernel
theorem d_X7_open_24 : decode cX7_open 24 = .ok (.putfield 29, 3) := by decide +kernel
theorem d_X7_open_27 : decode cX7_open 27 = .ok (.aload_n 0, 1) := by decide +kernel
theorem d_X7_open_28 : decode cX7_open 28 = .ok (.iconst 0, 1) := by decide +kernel
theorem d_X7_open_29 : decode cX7_open 29 = .ok (.putfield 32, 3) := by decide +kernel
theorem d_X7_open_32 : decode cX7_open 32 = .ok (.iconst 0, 1) := by decide +kernel
theorem d_X7_open_33 : decode cX7_open 33 = .ok (.istore 6, 2) := by decide +kernel
theorem d_X7_open_35 : decode cX7_open 35 = .ok (.iload 6, 2) := by decide +kernel
theorem d_X7_open_37 : decode cX7_open 37 = .ok (.iconst 2, 1) := by decide +kernel
theorem d_X7_open_38 : decode cX7_open 38 = .ok (.if_icmp .ge 25, 3) := by decide +kernel
theorem d_X7_open_41 : decode cX7_open 41 = .ok (.aload_n 0, 1) := by decide +kernel
theorem d_X7_open_42 : decode cX7_open 42 = .ok (.getfield 7, 3) := by decide +kernel
theorem d_X7_open_45 : decode cX7_open 45 = .ok (.iload 6, 2) := by decide +kernel
theorem d_X7_open_47 : decode cX7_open 47 = .ok (.lconst 0, 1) := by decide +kernel
theorem d_X7_open_48 : decode cX7_open 48 = .ok (.lastore, 1) := by decide +kernel
theorem d_X7_open_49 : decode cX7_open 49 = .ok (.aload_n 0, 1) := by decide +kernel
theorem d_X7_open_50 : decode cX7_open 50 = .ok (.getfield 13, 3) := by decide +kernel
theorem d_X7_open_53 : decode cX7_open 53 = .ok (.iload 6, 2) := by decide +kernel
theorem d_X7_open_55 : decode cX7_open 55 = .ok (.lconst 0, 1) := by decide +kernel
theorem d_X7_open_56 : decode cX7_open 56 = .ok (.lastore, 1) := by decide +kernel
theorem d_X7_open_57 : decode cX7_open 57 = .ok (.iinc 6 1, 3) := by decide +kernel
theorem d_X7_open_60 : decode cX7_open 60 = .ok (.goto (-25), 3) := by decide +kernel
theorem d_X7_open_63 : decode cX7_open 63 = .ok (.return_, 1) := by decide +kernel
def f_X7_open_35B (k35 : Nat → Int32 → Mem → Option (Unit × Mem)) (v0 : Nat) (v6 : Int32) (S : Mem) : Option (Unit × Mem) := (if 2 ≤ v6 then (some ((), S)) else (if kd v0 = (6, 8) then (if inb v6 2 = true then (if inb v6 2 = true then (k35 v0 (v6 + 1) (sL (sL S (v0 + 1) ((v6 : Int32).toNatClampNeg) 0) (v0 + 2) ((v6 : Int32).toNatClampNeg) 0)) else none) else none) else none))
set_option maxRecDepth 20000 in
theorem t_X7_open_35B {X : MC} {Γ : GG} (C : CX X Γ cX7_open 7 "TickPools$Stake" 0 0) (hr : X.2.2.2.2.2.2.2.2.1.sig.returnType = none) {k35 : Nat → Int32 → Mem → Option (Unit × Mem)} {q : Unit × Mem} (hk35 : ∀ (v0 : Nat) (v6 : Int32) (S : Mem), k35 v0 v6 S = some q → ZZ X Γ 7 (QQ X Γ none q.2) S 35 [(0, aR v0), (6, aI v6)] []) (v0 : Nat) (v6 : Int32) (S : Mem) (hf : f_X7_open_35B k35 v0 v6 S = some q) : ZZ X Γ 7 (QQ X Γ none q.2) S 35 [(0, aR v0), (6, aI v6)] [] := by
  unfold f_X7_open_35B at hf
  refine z_iload (j := 1) C d_X7_open_35 rfl ?_
  refine z_iconst (v := 2) C d_X7_open_37 (by decide) ?_
  refine z_icmp_ge (tgt := 63) C d_X7_open_38 (by decide) hf (fun c38 hf => ?_) (fun c38 hf => ?_)
  · exact r_v C hr d_X7_open_63 hf
  · refine z_aload_n (j := 0) C d_X7_open_41 rfl ?_
    obtain ⟨hg42_0, hf⟩ := gd hf
    refine zg_X7_gain C hg42_0 tw_167 d_X7_open_42 ?_
    refine z_iload (j := 1) C d_X7_open_45 rfl ?_
    refine z_lconst (v := 0) C d_X7_open_47 (by decide) ?_
    obtain ⟨hi48_1, hf⟩ := gd hf
    refine z_last C (kdS1 hg42_0) hi48_1 d_X7_open_48 ?_
    refine z_aload_n (j := 0) C d_X7_open_49 rfl ?_
    refine zg_X7_debt C hg42_0 tw_169 d_X7_open_50 ?_
    refine z_iload (j := 1) C d_X7_open_53 rfl ?_
    refine z_lconst (v := 0) C d_X7_open_55 (by decide) ?_
    obtain ⟨hi56_2, hf⟩ := gd hf
    refine z_last C (kdS2 hg42_0) hi56_2 d_X7_open_56 ?_
    refine z_iinc (j := 1) (v := (v6 + 1)) (lv' := [(6, aI (v6 + 1)), (0, aR v0)]) C d_X7_open_57 rfl rfl (by decide) rfl ?_
    refine z_goto (tgt := 35) C d_X7_open_60 (by decide) ?_
    exact z_sub [1, 0] rfl (hk35 _ _ _ hf)
def f_X7_open_35 : Nat → Nat → Int32 → Mem → Option (Unit × Mem)
  | 0 => fun _ _ _ => none
  | n + 1 => f_X7_open_35B (f_X7_open_35 n)
theorem t_X7_open_35 {X : MC} {Γ : GG} (C : CX X Γ cX7_open 7 "TickPools$Stake" 0 0) (hr : X.2.2.2.2.2.2.2.2.1.sig.returnType = none) {q : Unit × Mem} : ∀ (n : Nat) (v0 : Nat) (v6 : Int32) (S : Mem) (hf : f_X7_open_35 n v0 v6 S = some q), ZZ X Γ 7 (QQ X Γ none q.2) S 35 [(0, aR v0), (6, aI v6)] []
  | 0, _, _, _, hf => nomatch (show (none : Option (Unit × Mem)) = some q from hf)
  | n + 1, v0, v6, S, hf => t_X7_open_35B C hr (t_X7_open_35 C hr n) v0 v6 S hf
def f_X7_open_32 (v0 : Nat) (S : Mem) : Option (Unit × Mem) := (f_X7_open_35  100000 v0 0 S)
set_option maxRecDepth 20000 in
theorem t_X7_open_32 {X : MC} {Γ : GG} (C : CX X Γ cX7_open 7 "TickPools$Stake" 0 0) (hr : X.2.2.2.2.2.2.2.2.1.sig.returnType = none) {q : Unit × Mem} (v0 : Nat) (S : Mem) (hf : f_X7_open_32 v0 S = some q) : ZZ X Γ 7 (QQ X Γ none q.2) S 32 [(0, aR v0)] [] := by
  unfold f_X7_open_32 at hf
  refine z_iconst (v := 0) C d_X7_open_32 (by decide) ?_
  refine z_istore (lv' := [(6, aI 0), (0, aR v0)]) C d_X7_open_33 (by decide) rfl ?_
  exact z_sub [1, 0] rfl (t_X7_open_35 C hr  100000 _ _ _ hf)
def f_X7_open_15 (v0 : Nat) (v4 : Int32) (v5 : Int32) (S : Mem) : Option (Unit × Mem) := (if kd v0 = (6, 8) then (f_X7_open_32  v0 (sI (sI (sI S v0 3 v4) v0 4 v5) v0 5 0)) else none)
set_option maxRecDepth 20000 in
theorem t_X7_open_15 {X : MC} {Γ : GG} (C : CX X Γ cX7_open 7 "TickPools$Stake" 0 0) (hr : X.2.2.2.2.2.2.2.2.1.sig.returnType = none) {q : Unit × Mem} (v0 : Nat) (v4 : Int32) (v5 : Int32) (S : Mem) (hf : f_X7_open_15 v0 v4 v5 S = some q) : ZZ X Γ 7 (QQ X Γ none q.2) S 15 [(0, aR v0), (4, aI v4), (5, aI v5)] [] := by
  unfold f_X7_open_15 at hf
  refine z_aload_n (j := 0) C d_X7_open_15 rfl ?_
  refine z_iload (j := 1) C d_X7_open_16 rfl ?_
  obtain ⟨hg18_0, hf⟩ := gd hf
  refine zp_X7_high C hg18_0 tw_157 d_X7_open_18 ?_
  refine z_aload_n (j := 0) C d_X7_open_21 rfl ?_
  refine z_iload (j := 2) C d_X7_open_22 rfl ?_
  refine zp_X7_auto C hg18_0 tw_160 d_X7_open_24 ?_
  refine z_aload_n (j := 0) C d_X7_open_27 rfl ?_
  refine z_iconst (v := 0) C d_X7_open_28 (by decide) ?_
  refine zp_X7_liquidity C hg18_0 tw_163 d_X7_open_29 ?_
  exact z_sub [0] rfl (t_X7_open_32 C hr  _ _ hf)
/-- TickPools$Stake.open(IIIII)V -/
def f_X7_open (h0 : Nat) (p1 : Int32) (p2 : Int32) (p3 : Int32) (p4 : Int32) (p5 : Int32) (S : Mem) : Option (Unit × Mem) := (if kd h0 = (6, 8) then (f_X7_open_15  h0 p4 p5 (sI (sI (sI S h0 0 p1) h0 1 p2) h0 2 p3)) else none)
set_option maxRecDepth 20000 in
theorem c_X7_open {l : Launch} {Γ : GG} (hI : Inj Γ) {h0 : Nat} {p1 : Int32} {p2 : Int32} {p3 : Int32} {p4 : Int32} {p5 : Int32} {S : Mem} {q : Unit × Mem} (hf : f_X7_open h0 p1 p2 p3 p4 p5 S = some q) : MM l Γ yX7_open cX7_open 7 (none) 0 0 [aR h0, aI p1, aI p2, aI p3, aI p4, aI p5] S none q.2 := by
  refine met_of hI "TickPools$Stake" rfl (by decide +kernel) (Nat.le_of_ble_eq_true rfl) (fun X hX C hr => ?_)
  unfold f_X7_open at hf
  show ZZ X Γ 7 _ S 0 [(0, aR h0), (1, aI p1), (2, aI p2), (3, aI p3), (4, aI p4), (5, aI p5)] []
  refine z_aload_n (j := 0) C d_X7_open_0 rfl ?_
  refine z_iload_n (j := 1) C d_X7_open_1 rfl ?_
  obtain ⟨hg2_0, hf⟩ := gd hf
  refine zp_X7_person C hg2_0 tw_148 d_X7_open_2 ?_
  refine z_aload_n (j := 0) C d_X7_open_5 rfl ?_
  refine z_iload_n (j := 2) C d_X7_open_6 rfl ?_
  refine zp_X7_pool C hg2_0 tw_151 d_X7_open_7 ?_
  refine z_aload_n (j := 0) C d_X7_open_10 rfl ?_
  refine z_iload_n (j := 3) C d_X7_open_11 rfl ?_
  refine zp_X7_low C hg2_0 tw_154 d_X7_open_12 ?_
  exact z_sub [0, 4, 5] rfl (t_X7_open_15 C hr  _ _ _ _ hf)
theorem d_X7_copyFrom_0 : decode cX7_copyFrom 0 = .ok (.aload_n 0, 1) := by decide +kernel
theorem d_X7_copyFrom_1 : decode cX7_copyFrom 1 = .ok (.aload_n 1, 1) := by decide +kernel
theorem d_X7_copyFrom_2 : decode cX7_copyFrom 2 = .ok (.getfield 16, 3) := by decide +kernel
theorem d_X7_copyFrom_5 : decode cX7_copyFrom 5 = .ok (.aload_n 1, 1) := by decide +kernel
theorem d_X7_copyFrom_6 : decode cX7_copyFrom 6 = .ok (.getfield 20, 3) := by decide +kernel
theorem d_X7_copyFrom_9 : decode cX7_copyFrom 9 = .ok (.aload_n 1, 1) := by decide +kernel
theorem d_X7_copyFrom_10 : decode cX7_copyFrom 10 = .ok (.getfield 23, 3) := by decide +kernel
theorem d_X7_copyFrom_13 : decode cX7_copyFrom 13 = .ok (.aload_n 1, 1) := by decide +kernel
theorem d_X7_copyFrom_14 : decode cX7_copyFrom 14 = .ok (.getfield 26, 3) := by decide +kernel
theorem d_X7_copyFrom_17 : decode cX7_copyFrom 17 = .ok (.aload_n 1, 1) := by decide +kernel
theorem d_X7_copyFrom_18 : decode cX7_copyFrom 18 = .ok (.getfield 29, 3) := by decide +kernel
theorem d_X7_copyFrom_21 : decode cX7_copyFrom 21 = .ok (.invokevirtual 35, 3) := by decide +kernel
theorem d_X7_copyFrom_24 : decode cX7_copyFrom 24 = .ok (.aload_n 0, 1) := by decide +kernel
theorem d_X7_copyFrom_25 : decode cX7_copyFrom 25 = .ok (.aload_n 1, 1) := by decide +kernel
theorem d_X7_copyFrom_26 : decode cX7_copyFrom 26 = .ok (.getfield 32, 3) := by decide +kernel
theorem d_X7_copyFrom_29 : decode cX7_copyFrom 29 = .ok (.putfield 32, 3) := by decide +kernel
theorem d_X7_copyFrom_32 : decode cX7_copyFrom 32 = .ok (.iconst 0, 1) := by decide +kernel
theorem d_X7_copyFrom_33 : decode cX7_copyFrom 33 = .ok (.istore_n 2, 1) := by decide +kernel
theorem d_X7_copyFrom_34 : decode cX7_copyFrom 34 = .ok (.iload_n 2, 1) := by decide +kernel
theorem d_X7_copyFrom_35 : decode cX7_copyFrom 35 = .ok (.iconst 2, 1) := by decide +kernel
theorem d_X7_copyFrom_36 : decode cX7_copyFrom 36 = .ok (.if_icmp .ge 33, 3) := by decide +kernel
theorem d_X7_copyFrom_39 : decode cX7_copyFrom 39 = .ok (.aload_n 0, 1) := by decide +kernel
theorem d_X7_copyFrom_40 : decode cX7_copyFrom 40 = .ok (.getfield 7, 3) := by decide +kernel
theorem d_X7_copyFrom_43 : decode cX7_copyFrom 43 = .ok (.iload_n 2, 1) := by decide +kernel
theorem d_X7_copyFrom_44 : decode cX7_copyFrom 44 = .ok (.aload_n 1, 1) := by decide +kernel
theorem d_X7_copyFrom_45 : decode cX7_copyFrom 45 = .ok (.getfield 7, 3) := by decide +kernel
theorem d_X7_copyFrom_48 : decode cX7_copyFrom 48 = .ok (.iload_n 2, 1) := by decide +kernel
theorem d_X7_copyFrom_49 : decode cX7_copyFrom 49 = .ok (.laload, 1) := by decide +kernel
theorem d_X7_copyFrom_50 : decode cX7_copyFrom 50 = .ok (.lastore, 1) := by decide +kernel
theorem d_X7_copyFrom_51 : decode cX7_copyFrom 51 = .ok (.aload_n 0, 1) := by decide +kernel
theorem d_X7_copyFrom_52 : decode cX7_copyFrom 52 = .ok (.getfield 13, 3) := by decide +kernel
theorem d_X7_copyFrom_55 : decode cX7_copyFrom 55 = .ok (.iload_n 2, 1) := by decide +kernel
theorem d_X7_copyFrom_56 : decode cX7_copyFrom 56 = .ok (.aload_n 1, 1) := by decide +kernel
theorem d_X7_copyFrom_57 : decode cX7_copyFrom 57 = .ok (.getfield 13, 3) := by decide +kernel
theorem d_X7_copyFrom_60 : decode cX7_copyFrom 60 = .ok (.iload_n 2, 1) := by decide +kernel
theorem d_X7_copyFrom_61 : decode cX7_copyFrom 61 = .ok (.laload, 1) := by decide +kernel
theorem d_X7_copyFrom_62 : decode cX7_copyFrom 62 = .ok (.lastore, 1) := by decide +kernel
theorem d_X7_copyFrom_63 : decode cX7_copyFrom 63 = .ok (.iinc 2 1, 3) := by decide +kernel
theorem d_X7_copyFrom_66 : decode cX7_copyFrom 66 = .ok (.goto (-32), 3) := by decide +kernel
theorem d_X7_copyFrom_69 : decode cX7_copyFrom 69 = .ok (.return_, 1) := by decide +kernel
def f_X7_copyFrom_34B (k34 : Nat → Nat → Int32 → Mem → Option (Unit × Mem)) (v0 : Nat) (v1 : Nat) (v2 : Int32) (S : Mem) : Option (Unit × Mem) := (if 2 ≤ v2 then (some ((), S)) else (if kd v0 = (6, 8) then (if kd v1 = (6, 8) then (if inb v2 2 = true then (if inb v2 2 = true then (if inb v2 2 = true then (if inb v2 2 = true then (k34 v0 v1 (v2 + 1) (sL (sL S (v0 + 1) ((v2 : Int32).toNatClampNeg) (gL S (v1 + 1) ((v2 : Int32).toNatClampNeg))) (v0 + 2) ((v2 : Int32).toNatClampNeg) (gL (sL S (v0 + 1) ((v2 : Int32).toNatClampNeg) (gL S (v1 + 1) ((v2 : Int32).toNatClampNeg))) (v1 + 2) ((v2 : Int32).toNatClampNeg)))) else none) else none) else none) else none) else none) else none))
set_option maxRecDepth 20000 in
theorem t_X7_copyFrom_34B {X : MC} {Γ : GG} (C : CX X Γ cX7_copyFrom 3 "TickPools$Stake" 1 26) (hr : X.2.2.2.2.2.2.2.2.1.sig.returnType = none) {k34 : Nat → Nat → Int32 → Mem → Option (Unit × Mem)} {q : Unit × Mem} (hk34 : ∀ (v0 : Nat) (v1 : Nat) (v2 : Int32) (S : Mem), k34 v0 v1 v2 S = some q → ZZ X Γ 3 (QQ X Γ none q.2) S 34 [(0, aR v0), (1, aR v1), (2, aI v2)] []) (v0 : Nat) (v1 : Nat) (v2 : Int32) (S : Mem) (hf : f_X7_copyFrom_34B k34 v0 v1 v2 S = some q) : ZZ X Γ 3 (QQ X Γ none q.2) S 34 [(0, aR v0), (1, aR v1), (2, aI v2)] [] := by
  unfold f_X7_copyFrom_34B at hf
  refine z_iload_n (j := 2) C d_X7_copyFrom_34 rfl ?_
  refine z_iconst (v := 2) C d_X7_copyFrom_35 (by decide) ?_
  refine z_icmp_ge (tgt := 69) C d_X7_copyFrom_36 (by decide) hf (fun c36 hf => ?_) (fun c36 hf => ?_)
  · exact r_v C hr d_X7_copyFrom_69 hf
  · refine z_aload_n (j := 0) C d_X7_copyFrom_39 rfl ?_
    obtain ⟨hg40_0, hf⟩ := gd hf
    refine zg_X7_gain C hg40_0 tw_167 d_X7_copyFrom_40 ?_
    refine z_iload_n (j := 2) C d_X7_copyFrom_43 rfl ?_
    refine z_aload_n (j := 1) C d_X7_copyFrom_44 rfl ?_
    obtain ⟨hg45_1, hf⟩ := gd hf
    refine zg_X7_gain C hg45_1 tw_167 d_X7_copyFrom_45 ?_
    refine z_iload_n (j := 2) C d_X7_copyFrom_48 rfl ?_
    obtain ⟨hi49_2, hf⟩ := gd hf
    refine z_lald C (kdS1 hg45_1) hi49_2 d_X7_copyFrom_49 ?_
    obtain ⟨hi50_3, hf⟩ := gd hf
    refine z_last C (kdS1 hg40_0) hi50_3 d_X7_copyFrom_50 ?_
    refine z_aload_n (j := 0) C d_X7_copyFrom_51 rfl ?_
    refine zg_X7_debt C hg40_0 tw_169 d_X7_copyFrom_52 ?_
    refine z_iload_n (j := 2) C d_X7_copyFrom_55 rfl ?_
    refine z_aload_n (j := 1) C d_X7_copyFrom_56 rfl ?_
    refine zg_X7_debt C hg45_1 tw_169 d_X7_copyFrom_57 ?_
    refine z_iload_n (j := 2) C d_X7_copyFrom_60 rfl ?_
    obtain ⟨hi61_4, hf⟩ := gd hf
    refine z_lald C (kdS2 hg45_1) hi61_4 d_X7_copyFrom_61 ?_
    obtain ⟨hi62_5, hf⟩ := gd hf
    refine z_last C (kdS2 hg40_0) hi62_5 d_X7_copyFrom_62 ?_
    refine z_iinc (j := 2) (v := (v2 + 1)) (lv' := [(2, aI (v2 + 1)), (0, aR v0), (1, aR v1)]) C d_X7_copyFrom_63 rfl rfl (by decide) rfl ?_
    refine z_goto (tgt := 34) C d_X7_copyFrom_66 (by decide) ?_
    exact z_sub [1, 2, 0] rfl (hk34 _ _ _ _ hf)
def f_X7_copyFrom_34 : Nat → Nat → Nat → Int32 → Mem → Option (Unit × Mem)
  | 0 => fun _ _ _ _ => none
  | n + 1 => f_X7_copyFrom_34B (f_X7_copyFrom_34 n)
theorem t_X7_copyFrom_34 {X : MC} {Γ : GG} (C : CX X Γ cX7_copyFrom 3 "TickPools$Stake" 1 26) (hr : X.2.2.2.2.2.2.2.2.1.sig.returnType = none) {q : Unit × Mem} : ∀ (n : Nat) (v0 : Nat) (v1 : Nat) (v2 : Int32) (S : Mem) (hf : f_X7_copyFrom_34 n v0 v1 v2 S = some q), ZZ X Γ 3 (QQ X Γ none q.2) S 34 [(0, aR v0), (1, aR v1), (2, aI v2)] []
  | 0, _, _, _, _, hf => nomatch (show (none : Option (Unit × Mem)) = some q from hf)
  | n + 1, v0, v1, v2, S, hf => t_X7_copyFrom_34B C hr (t_X7_copyFrom_34 C hr n) v0 v1 v2 S hf
/-- TickPools$Stake.copyFrom(LTickPools$Stake;)V -/
def f_X7_copyFrom (h0 : Nat) (p1 : Nat) (S : Mem) : Option (Unit × Mem) := (if kd p1 = (6, 8) then (if kd h0 = (6, 8) then ((f_X7_open h0 (gI S p1 0) (gI S p1 1) (gI S p1 2) (gI S p1 3) (gI S p1 4) S).bind fun q21 => (f_X7_copyFrom_34  100000 h0 p1 0 (sI q21.2 h0 5 (gI q21.2 p1 5)))) else none) else none)
set_option maxRecDepth 20000 in
theorem c_X7_copyFrom {l : Launch} {Γ : GG} (hI : Inj Γ) {h0 : Nat} {p1 : Nat} {S : Mem} {q : Unit × Mem} (hf : f_X7_copyFrom h0 p1 S = some q) : MM l Γ yX7_copyFrom cX7_copyFrom 3 (none) 1 26 [aR h0, aR p1] S none q.2 := by
  refine met_of hI "TickPools$Stake" rfl (by decide +kernel) (Nat.le_of_ble_eq_true rfl) (fun X hX C hr => ?_)
  unfold f_X7_copyFrom at hf
  show ZZ X Γ 3 _ S 0 [(0, aR h0), (1, aR p1)] []
  refine z_aload_n (j := 0) C d_X7_copyFrom_0 rfl ?_
  refine z_aload_n (j := 1) C d_X7_copyFrom_1 rfl ?_
  obtain ⟨hg2_0, hf⟩ := gd hf
  refine zg_X7_person C hg2_0 tw_148 d_X7_copyFrom_2 ?_
  refine z_aload_n (j := 1) C d_X7_copyFrom_5 rfl ?_
  refine zg_X7_pool C hg2_0 tw_151 d_X7_copyFrom_6 ?_
  refine z_aload_n (j := 1) C d_X7_copyFrom_9 rfl ?_
  refine zg_X7_low C hg2_0 tw_154 d_X7_copyFrom_10 ?_
  refine z_aload_n (j := 1) C d_X7_copyFrom_13 rfl ?_
  refine zg_X7_high C hg2_0 tw_157 d_X7_copyFrom_14 ?_
  refine z_aload_n (j := 1) C d_X7_copyFrom_17 rfl ?_
  refine zg_X7_auto C hg2_0 tw_160 d_X7_copyFrom_18 ?_
  obtain ⟨hg21_1, hf⟩ := gd hf
  obtain ⟨q21, hF, hf⟩ := bd hf
  refine z_callV0 (rest := []) C [aI (gI S p1 0), aI (gI S p1 1), aI (gI S p1 2), aI (gI S p1 3), aI (gI S p1 4)] hg21_1 (by decide) rfl rfl k_X7_open tw_675 ⟨by decide, by decide⟩ (Nat.le_of_ble_eq_true rfl) d_X7_copyFrom_21 (c_X7_open C.inj hF) rfl ?_
  refine z_aload_n (j := 0) C d_X7_copyFrom_24 rfl ?_
  refine z_aload_n (j := 1) C d_X7_copyFrom_25 rfl ?_
  refine zg_X7_liquidity C hg2_0 tw_163 d_X7_copyFrom_26 ?_
  refine zp_X7_liquidity C hg21_1 tw_163 d_X7_copyFrom_29 ?_
  refine z_iconst (v := 0) C d_X7_copyFrom_32 (by decide) ?_
  refine z_istore_n (lv' := [(2, aI 0), (0, aR h0), (1, aR p1)]) C d_X7_copyFrom_33 (by decide) rfl ?_
  exact z_sub [1, 2, 0] rfl (t_X7_copyFrom_34 C hr  100000 _ _ _ _ hf)
theorem d_X2_copyFrom_0 : decode cX2_copyFrom 0 = .ok (.aload_n 0, 1) := by decide +kernel
theorem d_X2_copyFrom_1 : decode cX2_copyFrom 1 = .ok (.aload_n 1, 1) := by decide +kernel
theorem d_X2_copyFrom_2 : decode cX2_copyFrom 2 = .ok (.getfield 29, 3) := by decide +kernel
theorem d_X2_copyFrom_5 : decode cX2_copyFrom 5 = .ok (.putfield 29, 3) := by decide +kernel
theorem d_X2_copyFrom_8 : decode cX2_copyFrom 8 = .ok (.aload_n 0, 1) := by decide +kernel
theorem d_X2_copyFrom_9 : decode cX2_copyFrom 9 = .ok (.aload_n 1, 1) := by decide +kernel
theorem d_X2_copyFrom_10 : decode cX2_copyFrom 10 = .ok (.getfield 33, 3) := by decide +kernel
theorem d_X2_copyFrom_13 : decode cX2_copyFrom 13 = .ok (.putfield 33, 3) := by decide +kernel
theorem d_X2_copyFrom_16 : decode cX2_copyFrom 16 = .ok (.aload_n 0, 1) := by decide +kernel
theorem d_X2_copyFrom_17 : decode cX2_copyFrom 17 = .ok (.aload_n 1, 1) := by decide +kernel
theorem d_X2_copyFrom_18 : decode cX2_copyFrom 18 = .ok (.getfield 36, 3) := by decide +kernel
theorem d_X2_copyFrom_21 : decode cX2_copyFrom 21 = .ok (.putfield 36, 3) := by decide +kernel
theorem d_X2_copyFrom_24 : decode cX2_copyFrom 24 = .ok (.aload_n 0, 1) := by decide +kernel
theorem d_X2_copyFrom_25 : decode cX2_copyFrom 25 = .ok (.aload_n 1, 1) := by decide +kernel
theorem d_X2_copyFrom_26 : decode cX2_copyFrom 26 = .ok (.getfield 39, 3) := by decide +kernel
theorem d_X2_copyFrom_29 : decode cX2_copyFrom 29 = .ok (.putfield 39, 3) := by decide +kernel
theorem d_X2_copyFrom_32 : decode cX2_copyFrom 32 = .ok (.aload_n 0, 1) := by decide +kernel
theorem d_X2_copyFrom_33 : decode cX2_copyFrom 33 = .ok (.aload_n 1, 1) := by decide +kernel
theorem d_X2_copyFrom_34 : decode cX2_copyFrom 34 = .ok (.getfield 42, 3) := by decide +kernel
theorem d_X2_copyFrom_37 : decode cX2_copyFrom 37 = .ok (.putfield 42, 3) := by decide +kernel
theorem d_X2_copyFrom_40 : decode cX2_copyFrom 40 = .ok (.aload_n 0, 1) := by decide +kernel
theorem d_X2_copyFrom_41 : decode cX2_copyFrom 41 = .ok (.aload_n 1, 1) := by decide +kernel
theorem d_X2_copyFrom_42 : decode cX2_copyFrom 42 = .ok (.getfield 45, 3) := by decide +kernel
theorem d_X2_copyFrom_45 : decode cX2_copyFrom 45 = .ok (.putfield 45, 3) := by decide +kernel
theorem d_X2_copyFrom_48 : decode cX2_copyFrom 48 = .ok (.aload_n 1, 1) := by decide +kernel
theorem d_X2_copyFrom_49 : decode cX2_copyFrom 49 = .ok (.getfield 9, 3) := by decide +kernel
theorem d_X2_copyFrom_52 : decode cX2_copyFrom 52 = .ok (.iconst 0, 1) := by decide +kernel
theorem d_X2_copyFrom_53 : decode cX2_copyFrom 53 = .ok (.aload_n 0, 1) := by decide +kernel
theorem d_X2_copyFrom_54 : decode cX2_copyFrom 54 = .ok (.getfield 9, 3) := by decide +kernel
theorem d_X2_copyFrom_57 : decode cX2_copyFrom 57 = .ok (.iconst 0, 1) := by decide +kernel
theorem d_X2_copyFrom_58 : decode cX2_copyFrom 58 = .ok (.aload_n 0, 1) := by decide +kernel
theorem d_X2_copyFrom_59 : decode cX2_copyFrom 59 = .ok (.getfield 9, 3) := by decide +kernel
theorem d_X2_copyFrom_62 : decode cX2_copyFrom 62 = .ok (.arraylength, 1) := by decide +kernel
theorem d_X2_copyFrom_63 : decode cX2_copyFrom 63 = .ok (.invokestatic 48, 3) := by decide +kernel
theorem d_X2_copyFrom_66 : decode cX2_copyFrom 66 = .ok (.iconst 0, 1) := by decide +kernel
theorem d_X2_copyFrom_67 : decode cX2_copyFrom 67 = .ok (.istore_n 2, 1) := by decide +kernel
theorem d_X2_copyFrom_68 : decode cX2_copyFrom 68 = .ok (.iload_n 2, 1) := by decide +kernel
theorem d_X2_copyFrom_69 : decode cX2_copyFrom 69 = .ok (.aload_n 0, 1) := by decide +kernel
theorem d_X2_copyFrom_70 : decode cX2_copyFrom 70 = .ok (.getfield 36, 3) := by decide +kernel
theorem d_X2_copyFrom_73 : decode cX2_copyFrom 73 = .ok (.if_icmp .ge 33, 3) := by decide +kernel
theorem d_X2_copyFrom_76 : decode cX2_copyFrom 76 = .ok (.iload_n 2, 1) := by decide +kernel
theorem d_X2_copyFrom_77 : decode cX2_copyFrom 77 = .ok (.aload_n 0, 1) := by decide +kernel
theorem d_X2_copyFrom_78 : decode cX2_copyFrom 78 = .ok (.getfield 17, 3) := by decide +kernel
theorem d_X2_copyFrom_81 : decode cX2_copyFrom 81 = .ok (.arraylength, 1) := by decide +kernel
theorem d_X2_copyFrom_82 : decode cX2_copyFrom 82 = .ok (.if_icmp .ge 24, 3) := by decide +kernel
theorem d_X2_copyFrom_85 : decode cX2_copyFrom 85 = .ok (.aload_n 0, 1) := by decide +kernel
theorem d_X2_copyFrom_86 : decode cX2_copyFrom 86 = .ok (.getfield 17, 3) := by decide +kernel
theorem d_X2_copyFrom_89 : decode cX2_copyFrom 89 = .ok (.iload_n 2, 1) := by decide +kernel
theorem d_X2_copyFrom_90 : decode cX2_copyFrom 90 = .ok (.aaload, 1) := by decide +kernel
theorem d_X2_copyFrom_91 : decode cX2_copyFrom 91 = .ok (.aload_n 1, 1) := by decide +kernel
theorem d_X2_copyFrom_92 : decode cX2_copyFrom 92 = .ok (.getfield 17, 3) := by decide +kernel
theorem d_X2_copyFrom_95 : decode cX2_copyFrom 95 = .ok (.iload_n 2, 1) := by decide +kernel
theorem d_X2_copyFrom_96 : decode cX2_copyFrom 96 = .ok (.aaload, 1) := by decide +kernel
theorem d_X2_copyFrom_97 : decode cX2_copyFrom 97 = .ok (.invokevirtual 54, 3) := by decide +kernel
theorem d_X2_copyFrom_100 : decode cX2_copyFrom 100 = .ok (.iinc 2 1, 3) := by decide +kernel
theorem d_X2_copyFrom_103 : decode cX2_copyFrom 103 = .ok (.goto (-35), 3) := by decide +kernel
theorem d_X2_copyFrom_106 : decode cX2_copyFrom 106 = .ok (.iconst 0, 1) := by decide +kernel
theorem d_X2_copyFrom_107 : decode cX2_copyFrom 107 = .ok (.istore_n 2, 1) := by decide +kernel
theorem d_X2_copyFrom_108 : decode cX2_copyFrom 108 = .ok (.iload_n 2, 1) := by decide +kernel
theorem d_X2_copyFrom_109 : decode cX2_copyFrom 109 = .ok (.aload_n 0, 1) := by decide +kernel
theorem d_X2_copyFrom_110 : decode cX2_copyFrom 110 = .ok (.getfield 39, 3) := by decide +kernel
theorem d_X2_copyFrom_113 : decode cX2_copyFrom 113 = .ok (.if_icmp .ge 33, 3) := by decide +kernel
theorem d_X2_copyFrom_116 : decode cX2_copyFrom 116 = .ok (.iload_n 2, 1) := by decide +kernel
theorem d_X2_copyFrom_117 : decode cX2_copyFrom 117 = .ok (.aload_n 0, 1) := by decide +kernel
theorem d_X2_copyFrom_118 : decode cX2_copyFrom 118 = .ok (.getfield 24, 3) := by decide +kernel
theorem d_X2_copyFrom_121 : decode cX2_copyFrom 121 = .ok (.arraylength, 1) := by decide +kernel
theorem d_X2_copyFrom_122 : decode cX2_copyFrom 122 = .ok (.if_icmp .ge 24, 3) := by decide +kernel
theorem d_X2_copyFrom_125 : decode cX2_copyFrom 125 = .ok (.aload_n 0, 1) := by decide +kernel
theorem d_X2_copyFrom_126 : decode cX2_copyFrom 126 = .ok (.getfield 24, 3) := by decide +kernel
theorem d_X2_copyFrom_129 : decode cX2_copyFrom 129 = .ok (.iload_n 2, 1) := by decide +kernel
theorem d_X2_copyFrom_130 : decode cX2_copyFrom 130 = .ok (.aaload, 1) := by decide +kernel
theorem d_X2_copyFrom_131 : decode cX2_copyFrom 131 = .ok (.aload_n 1, 1) := by decide +kernel
theorem d_X2_copyFrom_132 : decode cX2_copyFrom 132 = .ok (.getfield 24, 3) := by decide +kernel
theorem d_X2_copyFrom_135 : decode cX2_copyFrom 135 = .ok (.iload_n 2, 1) := by decide +kernel
theorem d_X2_copyFrom_136 : decode cX2_copyFrom 136 = .ok (.aaload, 1) := by decide +kernel
theorem d_X2_copyFrom_137 : decode cX2_copyFrom 137 = .ok (.invokevirtual 58, 3) := by decide +kernel
theorem d_X2_copyFrom_140 : decode cX2_copyFrom 140 = .ok (.iinc 2 1, 3) := by decide +kernel
theorem d_X2_copyFrom_143 : decode cX2_copyFrom 143 = .ok (.goto (-35), 3) := by decide +kernel
theorem d_X2_copyFrom_146 : decode cX2_copyFrom 146 = .ok (.return_, 1) := by decide +kernel
def f_X2_copyFrom_146 (S : Mem) : Option (Unit × Mem) := (some ((), S))
set_option maxRecDepth 20000 in
theorem t_X2_copyFrom_146 {X : MC} {Γ : GG} (C : CX X Γ cX2_copyFrom 3 "TickPools$Market" 2 61) (hr : X.2.2.2.2.2.2.2.2.1.sig.returnType = none) {q : Unit × Mem} (S : Mem) (hf : f_X2_copyFrom_146 S = some q) : ZZ X Γ 3 (QQ X Γ none q.2) S 146 [] [] := by
  unfold f_X2_copyFrom_146 at hf
  exact r_v C hr d_X2_copyFrom_146 hf
def f_X2_copyFrom_108B (k108 : Nat → Nat → Int32 → Mem → Option (Unit × Mem)) (v0 : Nat) (v1 : Nat) (v2 : Int32) (S : Mem) : Option (Unit × Mem) := (if kd v0 = (1, 9) then (if (gI S v0 3) ≤ v2 then (f_X2_copyFrom_146  S) else (if 12 ≤ v2 then (f_X2_copyFrom_146  S) else (if inb v2 12 = true then (if kd v1 = (1, 9) then (if inb v2 12 = true then (if kd (gR S (v0 + 3) ((v2 : Int32).toNatClampNeg)) = (6, 8) then ((f_X7_copyFrom (gR S (v0 + 3) ((v2 : Int32).toNatClampNeg)) (gR S (v1 + 3) ((v2 : Int32).toNatClampNeg)) S).bind fun q137 => (k108 v0 v1 (v2 + 1) q137.2)) else none) else none) else none) else none))) else none)
set_option maxRecDepth 20000 in
theorem t_X2_copyFrom_108B {X : MC} {Γ : GG} (C : CX X Γ cX2_copyFrom 3 "TickPools$Market" 2 61) (hr : X.2.2.2.2.2.2.2.2.1.sig.returnType = none) {k108 : Nat → Nat → Int32 → Mem → Option (Unit × Mem)} {q : Unit × Mem} (hk108 : ∀ (v0 : Nat) (v1 : Nat) (v2 : Int32) (S : Mem), k108 v0 v1 v2 S = some q → ZZ X Γ 3 (QQ X Γ none q.2) S 108 [(0, aR v0), (1, aR v1), (2, aI v2)] []) (v0 : Nat) (v1 : Nat) (v2 : Int32) (S : Mem) (hf : f_X2_copyFrom_108B k108 v0 v1 v2 S = some q) : ZZ X Γ 3 (QQ X Γ none q.2) S 108 [(0, aR v0), (1, aR v1), (2, aI v2)] [] := by
  unfold f_X2_copyFrom_108B at hf
  refine z_iload_n (j := 2) C d_X2_copyFrom_108 rfl ?_
  refine z_aload_n (j := 0) C d_X2_copyFrom_109 rfl ?_
  obtain ⟨hg110_0, hf⟩ := gd hf
  refine zg_X2_stakes C hg110_0 tw_200 d_X2_copyFrom_110 ?_
  refine z_icmp_ge (tgt := 146) C d_X2_copyFrom_113 (by decide) hf (fun c113 hf => ?_) (fun c113 hf => ?_)
  · exact z_sub [] rfl (t_X2_copyFrom_146 C hr  _ hf)
  · refine z_iload_n (j := 2) C d_X2_copyFrom_116 rfl ?_
    refine z_aload_n (j := 0) C d_X2_copyFrom_117 rfl ?_
    refine zg_X2_stakeRow C hg110_0 tw_210 d_X2_copyFrom_118 ?_
    refine z_alen (v := 12) C (kdM3 hg110_0) (by decide) (by decide) d_X2_copyFrom_121 ?_
    refine z_icmp_ge (tgt := 146) C d_X2_copyFrom_122 (by decide) hf (fun c122 hf => ?_) (fun c122 hf => ?_)
    · exact z_sub [] rfl (t_X2_copyFrom_146 C hr  _ hf)
    · refine z_aload_n (j := 0) C d_X2_copyFrom_125 rfl ?_
      refine zg_X2_stakeRow C hg110_0 tw_210 d_X2_copyFrom_126 ?_
      refine z_iload_n (j := 2) C d_X2_copyFrom_129 rfl ?_
      obtain ⟨hi130_0, hf⟩ := gd hf
      refine z_aldS C (kdM3 hg110_0) hi130_0 d_X2_copyFrom_130 ?_
      refine z_aload_n (j := 1) C d_X2_copyFrom_131 rfl ?_
      obtain ⟨hg132_1, hf⟩ := gd hf
      refine zg_X2_stakeRow C hg132_1 tw_210 d_X2_copyFrom_132 ?_
      refine z_iload_n (j := 2) C d_X2_copyFrom_135 rfl ?_
      obtain ⟨hi136_2, hf⟩ := gd hf
      refine z_aldS C (kdM3 hg132_1) hi136_2 d_X2_copyFrom_136 ?_
      obtain ⟨hg137_2, hf⟩ := gd hf
      obtain ⟨q137, hF, hf⟩ := bd hf
      refine z_callV0 (rest := []) C [aR (gR S (v1 + 3) ((v2 : Int32).toNatClampNeg))] hg137_2 (by decide) rfl rfl k_X7_copyFrom tw_671 ⟨by decide, by decide⟩ (Nat.le_of_ble_eq_true rfl) d_X2_copyFrom_137 (c_X7_copyFrom C.inj hF) rfl ?_
      refine z_iinc (j := 2) (v := (v2 + 1)) (lv' := [(2, aI (v2 + 1)), (0, aR v0), (1, aR v1)]) C d_X2_copyFrom_140 rfl rfl (by decide) rfl ?_
      refine z_goto (tgt := 108) C d_X2_copyFrom_143 (by decide) ?_
      exact z_sub [1, 2, 0] rfl (hk108 _ _ _ _ hf)
def f_X2_copyFrom_108 : Nat → Nat → Nat → Int32 → Mem → Option (Unit × Mem)
  | 0 => fun _ _ _ _ => none
  | n + 1 => f_X2_copyFrom_108B (f_X2_copyFrom_108 n)
theorem t_X2_copyFrom_108 {X : MC} {Γ : GG} (C : CX X Γ cX2_copyFrom 3 "TickPools$Market" 2 61) (hr : X.2.2.2.2.2.2.2.2.1.sig.returnType = none) {q : Unit × Mem} : ∀ (n : Nat) (v0 : Nat) (v1 : Nat) (v2 : Int32) (S : Mem) (hf : f_X2_copyFrom_108 n v0 v1 v2 S = some q), ZZ X Γ 3 (QQ X Γ none q.2) S 108 [(0, aR v0), (1, aR v1), (2, aI v2)] []
  | 0, _, _, _, _, hf => nomatch (show (none : Option (Unit × Mem)) = some q from hf)
  | n + 1, v0, v1, v2, S, hf => t_X2_copyFrom_108B C hr (t_X2_copyFrom_108 C hr n) v0 v1 v2 S hf
def f_X2_copyFrom_106 (v0 : Nat) (v1 : Nat) (S : Mem) : Option (Unit × Mem) := (f_X2_copyFrom_108  100000 v0 v1 0 S)
set_option maxRecDepth 20000 in
theorem t_X2_copyFrom_106 {X : MC} {Γ : GG} (C : CX X Γ cX2_copyFrom 3 "TickPools$Market" 2 61) (hr : X.2.2.2.2.2.2.2.2.1.sig.returnType = none) {q : Unit × Mem} (v0 : Nat) (v1 : Nat) (S : Mem) (hf : f_X2_copyFrom_106 v0 v1 S = some q) : ZZ X Γ 3 (QQ X Γ none q.2) S 106 [(0, aR v0), (1, aR v1)] [] := by
  unfold f_X2_copyFrom_106 at hf
  refine z_iconst (v := 0) C d_X2_copyFrom_106 (by decide) ?_
  refine z_istore_n (lv' := [(2, aI 0), (0, aR v0), (1, aR v1)]) C d_X2_copyFrom_107 (by decide) rfl ?_
  exact z_sub [1, 2, 0] rfl (t_X2_copyFrom_108 C hr  100000 _ _ _ _ hf)
def f_X2_copyFrom_68B (k68 : Nat → Nat → Int32 → Mem → Option (Unit × Mem)) (v0 : Nat) (v1 : Nat) (v2 : Int32) (S : Mem) : Option (Unit × Mem) := (if kd v0 = (1, 9) then (if (gI S v0 2) ≤ v2 then (f_X2_copyFrom_106  v0 v1 S) else (if 5 ≤ v2 then (f_X2_copyFrom_106  v0 v1 S) else (if inb v2 5 = true then (if kd v1 = (1, 9) then (if inb v2 5 = true then ((f_X4_copyFrom ((v0 + 2) + 2 + 5 * ((v2 : Int32).toNatClampNeg)) ((v1 + 2) + 2 + 5 * ((v2 : Int32).toNatClampNeg)) S).bind fun q97 => (k68 v0 v1 (v2 + 1) q97.2)) else none) else none) else none))) else none)
set_option maxRecDepth 20000 in
theorem t_X2_copyFrom_68B {X : MC} {Γ : GG} (C : CX X Γ cX2_copyFrom 3 "TickPools$Market" 2 61) (hr : X.2.2.2.2.2.2.2.2.1.sig.returnType = none) {k68 : Nat → Nat → Int32 → Mem → Option (Unit × Mem)} {q : Unit × Mem} (hk68 : ∀ (v0 : Nat) (v1 : Nat) (v2 : Int32) (S : Mem), k68 v0 v1 v2 S = some q → ZZ X Γ 3 (QQ X Γ none q.2) S 68 [(0, aR v0), (1, aR v1), (2, aI v2)] []) (v0 : Nat) (v1 : Nat) (v2 : Int32) (S : Mem) (hf : f_X2_copyFrom_68B k68 v0 v1 v2 S = some q) : ZZ X Γ 3 (QQ X Γ none q.2) S 68 [(0, aR v0), (1, aR v1), (2, aI v2)] [] := by
  unfold f_X2_copyFrom_68B at hf
  refine z_iload_n (j := 2) C d_X2_copyFrom_68 rfl ?_
  refine z_aload_n (j := 0) C d_X2_copyFrom_69 rfl ?_
  obtain ⟨hg70_0, hf⟩ := gd hf
  refine zg_X2_pools C hg70_0 tw_196 d_X2_copyFrom_70 ?_
  refine z_icmp_ge (tgt := 106) C d_X2_copyFrom_73 (by decide) hf (fun c73 hf => ?_) (fun c73 hf => ?_)
  · exact z_sub [0, 1] rfl (t_X2_copyFrom_106 C hr  _ _ _ hf)
  · refine z_iload_n (j := 2) C d_X2_copyFrom_76 rfl ?_
    refine z_aload_n (j := 0) C d_X2_copyFrom_77 rfl ?_
    refine zg_X2_poolRow C hg70_0 tw_209 d_X2_copyFrom_78 ?_
    refine z_alen (v := 5) C (kdM2 hg70_0) (by decide) (by decide) d_X2_copyFrom_81 ?_
    refine z_icmp_ge (tgt := 106) C d_X2_copyFrom_82 (by decide) hf (fun c82 hf => ?_) (fun c82 hf => ?_)
    · exact z_sub [0, 1] rfl (t_X2_copyFrom_106 C hr  _ _ _ hf)
    · refine z_aload_n (j := 0) C d_X2_copyFrom_85 rfl ?_
      refine zg_X2_poolRow C hg70_0 tw_209 d_X2_copyFrom_86 ?_
      refine z_iload_n (j := 2) C d_X2_copyFrom_89 rfl ?_
      obtain ⟨hi90_0, hf⟩ := gd hf
      refine z_aldP C (kdM2 hg70_0) hi90_0 d_X2_copyFrom_90 ?_
      refine z_aload_n (j := 1) C d_X2_copyFrom_91 rfl ?_
      obtain ⟨hg92_1, hf⟩ := gd hf
      refine zg_X2_poolRow C hg92_1 tw_209 d_X2_copyFrom_92 ?_
      refine z_iload_n (j := 2) C d_X2_copyFrom_95 rfl ?_
      obtain ⟨hi96_2, hf⟩ := gd hf
      refine z_aldP C (kdM2 hg92_1) hi96_2 d_X2_copyFrom_96 ?_
      obtain ⟨q97, hF, hf⟩ := bd hf
      refine z_callV0 (rest := []) C [aR ((v1 + 2) + 2 + 5 * ((v2 : Int32).toNatClampNeg))] (kdPool (kdM2 hg70_0) hi90_0) (by decide) rfl rfl k_X4_copyFrom tw_666 ⟨by decide, by decide⟩ (Nat.le_of_ble_eq_true rfl) d_X2_copyFrom_97 (c_X4_copyFrom C.inj hF) rfl ?_
      refine z_iinc (j := 2) (v := (v2 + 1)) (lv' := [(2, aI (v2 + 1)), (0, aR v0), (1, aR v1)]) C d_X2_copyFrom_100 rfl rfl (by decide) rfl ?_
      refine z_goto (tgt := 68) C d_X2_copyFrom_103 (by decide) ?_
      exact z_sub [1, 2, 0] rfl (hk68 _ _ _ _ hf)
def f_X2_copyFrom_68 : Nat → Nat → Nat → Int32 → Mem → Option (Unit × Mem)
  | 0 => fun _ _ _ _ => none
  | n + 1 => f_X2_copyFrom_68B (f_X2_copyFrom_68 n)
theorem t_X2_copyFrom_68 {X : MC} {Γ : GG} (C : CX X Γ cX2_copyFrom 3 "TickPools$Market" 2 61) (hr : X.2.2.2.2.2.2.2.2.1.sig.returnType = none) {q : Unit × Mem} : ∀ (n : Nat) (v0 : Nat) (v1 : Nat) (v2 : Int32) (S : Mem) (hf : f_X2_copyFrom_68 n v0 v1 v2 S = some q), ZZ X Γ 3 (QQ X Γ none q.2) S 68 [(0, aR v0), (1, aR v1), (2, aI v2)] []
  | 0, _, _, _, _, hf => nomatch (show (none : Option (Unit × Mem)) = some q from hf)
  | n + 1, v0, v1, v2, S, hf => t_X2_copyFrom_68B C hr (t_X2_copyFrom_68 C hr n) v0 v1 v2 S hf
def f_X2_copyFrom_48 (v0 : Nat) (v1 : Nat) (S : Mem) : Option (Unit × Mem) := (if kd v1 = (1, 9) then (if kd v0 = (1, 9) then (f_X2_copyFrom_68  100000 v0 v1 0 (cpI S (v1 + 1) ((0 : Int32).toNatClampNeg) (v0 + 1) ((0 : Int32).toNatClampNeg) ((20 : Int32).toNatClampNeg))) else none) else none)
set_option maxRecDepth 20000 in
theorem t_X2_copyFrom_48 {X : MC} {Γ : GG} (C : CX X Γ cX2_copyFrom 3 "TickPools$Market" 2 61) (hr : X.2.2.2.2.2.2.2.2.1.sig.returnType = none) {q : Unit × Mem} (v0 : Nat) (v1 : Nat) (S : Mem) (hf : f_X2_copyFrom_48 v0 v1 S = some q) : ZZ X Γ 3 (QQ X Γ none q.2) S 48 [(0, aR v0), (1, aR v1)] [] := by
  unfold f_X2_copyFrom_48 at hf
  refine z_aload_n (j := 1) C d_X2_copyFrom_48 rfl ?_
  obtain ⟨hg49_0, hf⟩ := gd hf
  refine zg_X2_purses C hg49_0 tw_208 d_X2_copyFrom_49 ?_
  refine z_iconst (v := 0) C d_X2_copyFrom_52 (by decide) ?_
  refine z_aload_n (j := 0) C d_X2_copyFrom_53 rfl ?_
  obtain ⟨hg54_1, hf⟩ := gd hf
  refine zg_X2_purses C hg54_1 tw_208 d_X2_copyFrom_54 ?_
  refine z_iconst (v := 0) C d_X2_copyFrom_57 (by decide) ?_
  refine z_aload_n (j := 0) C d_X2_copyFrom_58 rfl ?_
  refine zg_X2_purses C hg54_1 tw_208 d_X2_copyFrom_59 ?_
  refine z_alen (v := 20) C (kdM1 hg54_1) (by decide) (by decide) d_X2_copyFrom_62 ?_
  refine z_copy C tw_663 (kdM1 hg49_0) (kdM1 hg54_1) (by decide) (by decide) (by decide) (by decide) (by decide) (by decide) (Nat.le_of_ble_eq_true rfl) d_X2_copyFrom_63 ?_
  refine z_iconst (v := 0) C d_X2_copyFrom_66 (by decide) ?_
  refine z_istore_n (lv' := [(2, aI 0), (0, aR v0), (1, aR v1)]) C d_X2_copyFrom_67 (by decide) rfl ?_
  exact z_sub [1, 2, 0] rfl (t_X2_copyFrom_68 C hr  100000 _ _ _ _ hf)
def f_X2_copyFrom_24 (v0 : Nat) (v1 : Nat) (S : Mem) : Option (Unit × Mem) := (if kd v1 = (1, 9) then (if kd v0 = (1, 9) then (f_X2_copyFrom_48  v0 v1 (sI (sI (sI S v0 3 (gI S v1 3)) v0 4 (gI (sI S v0 3 (gI S v1 3)) v1 4)) v0 5 (gI (sI (sI S v0 3 (gI S v1 3)) v0 4 (gI (sI S v0 3 (gI S v1 3)) v1 4)) v1 5))) else none) else none)
set_option maxRecDepth 20000 in
theorem t_X2_copyFrom_24 {X : MC} {Γ : GG} (C : CX X Γ cX2_copyFrom 3 "TickPools$Market" 2 61) (hr : X.2.2.2.2.2.2.2.2.1.sig.returnType = none) {q : Unit × Mem} (v0 : Nat) (v1 : Nat) (S : Mem) (hf : f_X2_copyFrom_24 v0 v1 S = some q) : ZZ X Γ 3 (QQ X Γ none q.2) S 24 [(0, aR v0), (1, aR v1)] [] := by
  unfold f_X2_copyFrom_24 at hf
  refine z_aload_n (j := 0) C d_X2_copyFrom_24 rfl ?_
  refine z_aload_n (j := 1) C d_X2_copyFrom_25 rfl ?_
  obtain ⟨hg26_0, hf⟩ := gd hf
  refine zg_X2_stakes C hg26_0 tw_200 d_X2_copyFrom_26 ?_
  obtain ⟨hg29_1, hf⟩ := gd hf
  refine zp_X2_stakes C hg29_1 tw_200 d_X2_copyFrom_29 ?_
  refine z_aload_n (j := 0) C d_X2_copyFrom_32 rfl ?_
  refine z_aload_n (j := 1) C d_X2_copyFrom_33 rfl ?_
  refine zg_X2_time C hg26_0 tw_202 d_X2_copyFrom_34 ?_
  refine zp_X2_time C hg29_1 tw_202 d_X2_copyFrom_37 ?_
  refine z_aload_n (j := 0) C d_X2_copyFrom_40 rfl ?_
  refine z_aload_n (j := 1) C d_X2_copyFrom_41 rfl ?_
  refine zg_X2_crossed C hg26_0 tw_205 d_X2_copyFrom_42 ?_
  refine zp_X2_crossed C hg29_1 tw_205 d_X2_copyFrom_45 ?_
  exact z_sub [0, 1] rfl (t_X2_copyFrom_48 C hr  _ _ _ hf)
/-- TickPools$Market.copyFrom(LTickPools$Market;)V -/
def f_X2_copyFrom (h0 : Nat) (p1 : Nat) (S : Mem) : Option (Unit × Mem) := (if kd p1 = (1, 9) then (if kd h0 = (1, 9) then (f_X2_copyFrom_24  h0 p1 (sI (sI (sI S h0 0 (gI S p1 0)) h0 1 (gI (sI S h0 0 (gI S p1 0)) p1 1)) h0 2 (gI (sI (sI S h0 0 (gI S p1 0)) h0 1 (gI (sI S h0 0 (gI S p1 0)) p1 1)) p1 2))) else none) else none)
set_option maxRecDepth 20000 in
theorem c_X2_copyFrom {l : Launch} {Γ : GG} (hI : Inj Γ) {h0 : Nat} {p1 : Nat} {S : Mem} {q : Unit × Mem} (hf : f_X2_copyFrom h0 p1 S = some q) : MM l Γ yX2_copyFrom cX2_copyFrom 3 (none) 2 61 [aR h0, aR p1] S none q.2 := by
  refine met_of hI "TickPools$Market" rfl (by decide +kernel) (Nat.le_of_ble_eq_true rfl) (fun X hX C hr => ?_)
  unfold f_X2_copyFrom at hf
  show ZZ X Γ 3 _ S 0 [(0, aR h0), (1, aR p1)] []
  refine z_aload_n (j := 0) C d_X2_copyFrom_0 rfl ?_
  refine z_aload_n (j := 1) C d_X2_copyFrom_1 rfl ?_
  obtain ⟨hg2_0, hf⟩ := gd hf
  refine zg_X2_things C hg2_0 tw_190 d_X2_copyFrom_2 ?_
  obtain ⟨hg5_1, hf⟩ := gd hf
  refine zp_X2_things C hg5_1 tw_190 d_X2_copyFrom_5 ?_
  refine z_aload_n (j := 0) C d_X2_copyFrom_8 rfl ?_
  refine z_aload_n (j := 1) C d_X2_copyFrom_9 rfl ?_
  refine zg_X2_people C hg2_0 tw_193 d_X2_copyFrom_10 ?_
  refine zp_X2_people C hg5_1 tw_193 d_X2_copyFrom_13 ?_
  refine z_aload_n (j := 0) C d_X2_copyFrom_16 rfl ?_
  refine z_aload_n (j := 1) C d_X2_copyFrom_17 rfl ?_
  refine zg_X2_pools C hg2_0 tw_196 d_X2_copyFrom_18 ?_
  refine zp_X2_pools C hg5_1 tw_196 d_X2_copyFrom_21 ?_
  exact z_sub [0, 1] rfl (t_X2_copyFrom_24 C hr  _ _ _ hf)
theorem d_X2_hasThing_0 : decode cX2_hasThing 0 = .ok (.iload_n 1, 1) := by decide +kernel
theorem d_X2_hasThing_1 : decode cX2_hasThing 1 = .ok (.ifCond .lt 15, 3) := by decide +kernel
theorem d_X2_hasThing_4 : decode cX2_hasThing 4 = .ok (.iload_n 1, 1) := by decide +kernel
theorem d_X2_hasThing_5 : decode cX2_hasThing 5 = .ok (.aload_n 0, 1) := by decide +kernel
theorem d_X2_hasThing_6 : decode cX2_hasThing 6 = .ok (.getfield 29, 3) := by decide +kernel
theorem d_X2_hasThing_9 : decode cX2_hasThing 9 = .ok (.if_icmp .ge 7, 3) := by decide +kernel
theorem d_X2_hasThing_12 : decode cX2_hasThing 12 = .ok (.iconst 1, 1) := by decide +kernel
theorem d_X2_hasThing_13 : decode cX2_hasThing 13 = .ok (.goto 4, 3) := by decide +kernel
theorem d_X2_hasThing_16 : decode cX2_hasThing 16 = .ok (.iconst 0, 1) := by decide +kernel
theorem d_X2_hasThing_17 : decode cX2_hasThing 17 = .ok (.ireturn, 1) := by decide +kernel
def f_X2_hasThing_17 (s0 : Int32) (S : Mem) : Option (Int32 × Mem) := (if isB s0 = true then (some (s0, S)) else none)
set_option maxRecDepth 20000 in
theorem t_X2_hasThing_17 {X : MC} {Γ : GG} (C : CX X Γ cX2_hasThing 2 "TickPools$Market" 0 0) (hr : X.2.2.2.2.2.2.2.2.1.sig.returnType = some .boolean) {q : Int32 × Mem} (s0 : Int32) (S : Mem) (hf : f_X2_hasThing_17 s0 S = some q) : ZZ X Γ 2 (QQ X Γ (some (aI q.1)) q.2) S 17 [] [aI s0] := by
  unfold f_X2_hasThing_17 at hf
  obtain ⟨hb17_0, hf⟩ := gd hf
  exact r_i C hr (isB_nar hb17_0).1 d_X2_hasThing_17 hf
def f_X2_hasThing_16 (S : Mem) : Option (Int32 × Mem) := (f_X2_hasThing_17  0 S)
set_option maxRecDepth 20000 in
theorem t_X2_hasThing_16 {X : MC} {Γ : GG} (C : CX X Γ cX2_hasThing 2 "TickPools$Market" 0 0) (hr : X.2.2.2.2.2.2.2.2.1.sig.returnType = some .boolean) {q : Int32 × Mem} (S : Mem) (hf : f_X2_hasThing_16 S = some q) : ZZ X Γ 2 (QQ X Γ (some (aI q.1)) q.2) S 16 [] [] := by
  unfold f_X2_hasThing_16 at hf
  refine z_iconst (v := 0) C d_X2_hasThing_16 (by decide) ?_
  exact z_sub [] rfl (t_X2_hasThing_17 C hr  _ _ hf)
/-- TickPools$Market.hasThing(I)Z -/
def f_X2_hasThing (h0 : Nat) (p1 : Int32) (S : Mem) : Option (Int32 × Mem) := (if p1 < 0 then (f_X2_hasThing_16  S) else (if kd h0 = (1, 9) then (if (gI S h0 0) ≤ p1 then (f_X2_hasThing_16  S) else (f_X2_hasThing_17  1 S)) else none))
set_option maxRecDepth 20000 in
theorem c_X2_hasThing {l : Launch} {Γ : GG} (hI : Inj Γ) {h0 : Nat} {p1 : Int32} {S : Mem} {q : Int32 × Mem} (hf : f_X2_hasThing h0 p1 S = some q) : MM l Γ yX2_hasThing cX2_hasThing 2 (some .boolean) 0 0 [aR h0, aI p1] S (some (aI q.1)) q.2 := by
  refine met_of hI "TickPools$Market" rfl (by decide +kernel) (Nat.le_of_ble_eq_true rfl) (fun X hX C hr => ?_)
  unfold f_X2_hasThing at hf
  show ZZ X Γ 2 _ S 0 [(0, aR h0), (1, aI p1)] []
  refine z_iload_n (j := 1) C d_X2_hasThing_0 rfl ?_
  refine z_if_lt (tgt := 16) C d_X2_hasThing_1 (by decide) hf (fun c1 hf => ?_) (fun c1 hf => ?_)
  · exact z_sub [] rfl (t_X2_hasThing_16 C hr  _ hf)
  · refine z_iload_n (j := 1) C d_X2_hasThing_4 rfl ?_
    refine z_aload_n (j := 0) C d_X2_hasThing_5 rfl ?_
    obtain ⟨hg6_0, hf⟩ := gd hf
    refine zg_X2_things C hg6_0 tw_190 d_X2_hasThing_6 ?_
    refine z_icmp_ge (tgt := 16) C d_X2_hasThing_9 (by decide) hf (fun c9 hf => ?_) (fun c9 hf => ?_)
    · exact z_sub [] rfl (t_X2_hasThing_16 C hr  _ hf)
    · refine z_iconst (v := 1) C d_X2_hasThing_12 (by decide) ?_
      refine z_goto (tgt := 17) C d_X2_hasThing_13 (by decide) ?_
      exact z_sub [] rfl (t_X2_hasThing_17 C hr  _ _ hf)
theorem d_X2_hasPerson_0 : decode cX2_hasPerson 0 = .ok (.iload_n 1, 1) := by decide +kernel
theorem d_X2_hasPerson_1 : decode cX2_hasPerson 1 = .ok (.ifCond .lt 15, 3) := by decide +kernel
theorem d_X2_hasPerson_4 : decode cX2_hasPerson 4 = .ok (.iload_n 1, 1) := by decide +kernel
theorem d_X2_hasPerson_5 : decode cX2_hasPerson 5 = .ok (.aload_n 0, 1) := by decide +kernel
theorem d_X2_hasPerson_6 : decode cX2_hasPerson 6 = .ok (.getfield 33, 3) := by decide +kernel
theorem d_X2_hasPerson_9 : decode cX2_hasPerson 9 = .ok (.if_icmp .ge 7, 3) := by decide +kernel
theorem d_X2_hasPerson_12 : decode cX2_hasPerson 12 = .ok (.iconst 1, 1) := by decide +kernel
theorem d_X2_hasPerson_13 : decode cX2_hasPerson 13 = .ok (.goto 4, 3) := by decide +kernel
theorem d_X2_hasPerson_16 : decode cX2_hasPerson 16 = .ok (.iconst 0, 1) := by decide +kernel
theorem d_X2_hasPerson_17 : decode cX2_hasPerson 17 = .ok (.ireturn, 1) := by decide +kernel
def f_X2_hasPerson_17 (s0 : Int32) (S : Mem) : Option (Int32 × Mem) := (if isB s0 = true then (some (s0, S)) else none)
set_option maxRecDepth 20000 in
theorem t_X2_hasPerson_17 {X : MC} {Γ : GG} (C : CX X Γ cX2_hasPerson 2 "TickPools$Market" 0 0) (hr : X.2.2.2.2.2.2.2.2.1.sig.returnType = some .boolean) {q : Int32 × Mem} (s0 : Int32) (S : Mem) (hf : f_X2_hasPerson_17 s0 S = some q) : ZZ X Γ 2 (QQ X Γ (some (aI q.1)) q.2) S 17 [] [aI s0] := by
  unfold f_X2_hasPerson_17 at hf
  obtain ⟨hb17_0, hf⟩ := gd hf
  exact r_i C hr (isB_nar hb17_0).1 d_X2_hasPerson_17 hf
def f_X2_hasPerson_16 (S : Mem) : Option (Int32 × Mem) := (f_X2_hasPerson_17  0 S)
set_option maxRecDepth 20000 in
theorem t_X2_hasPerson_16 {X : MC} {Γ : GG} (C : CX X Γ cX2_hasPerson 2 "TickPools$Market" 0 0) (hr : X.2.2.2.2.2.2.2.2.1.sig.returnType = some .boolean) {q : Int32 × Mem} (S : Mem) (hf : f_X2_hasPerson_16 S = some q) : ZZ X Γ 2 (QQ X Γ (some (aI q.1)) q.2) S 16 [] [] := by
  unfold f_X2_hasPerson_16 at hf
  refine z_iconst (v := 0) C d_X2_hasPerson_16 (by decide) ?_
  exact z_sub [] rfl (t_X2_hasPerson_17 C hr  _ _ hf)
/-- TickPools$Market.hasPerson(I)Z -/
def f_X2_hasPerson (h0 : Nat) (p1 : Int32) (S : Mem) : Option (Int32 × Mem) := (if p1 < 0 then (f_X2_hasPerson_16  S) else (if kd h0 = (1, 9) then (if (gI S h0 1) ≤ p1 then (f_X2_hasPerson_16  S) else (f_X2_hasPerson_17  1 S)) else none))
set_option maxRecDepth 20000 in
theorem c_X2_hasPerson {l : Launch} {Γ : GG} (hI : Inj Γ) {h0 : Nat} {p1 : Int32} {S : Mem} {q : Int32 × Mem} (hf : f_X2_hasPerson h0 p1 S = some q) : MM l Γ yX2_hasPerson cX2_hasPerson 2 (some .boolean) 0 0 [aR h0, aI p1] S (some (aI q.1)) q.2 := by
  refine met_of hI "TickPools$Market" rfl (by decide +kernel) (Nat.le_of_ble_eq_true rfl) (fun X hX C hr => ?_)
  unfold f_X2_hasPerson at hf
  show ZZ X Γ 2 _ S 0 [(0, aR h0), (1, aI p1)] []
  refine z_iload_n (j := 1) C d_X2_hasPerson_0 rfl ?_
  refine z_if_lt (tgt := 16) C d_X2_hasPerson_1 (by decide) hf (fun c1 hf => ?_) (fun c1 hf => ?_)
  · exact z_sub [] rfl (t_X2_hasPerson_16 C hr  _ hf)
  · refine z_iload_n (j := 1) C d_X2_hasPerson_4 rfl ?_
    refine z_aload_n (j := 0) C d_X2_hasPerson_5 rfl ?_
    obtain ⟨hg6_0, hf⟩ := gd hf
    refine zg_X2_people C hg6_0 tw_193 d_X2_hasPerson_6 ?_
    refine z_icmp_ge (tgt := 16) C d_X2_hasPerson_9 (by decide) hf (fun c9 hf => ?_) (fun c9 hf => ?_)
    · exact z_sub [] rfl (t_X2_hasPerson_16 C hr  _ hf)
    · refine z_iconst (v := 1) C d_X2_hasPerson_12 (by decide) ?_
      refine z_goto (tgt := 17) C d_X2_hasPerson_13 (by decide) ?_
      exact z_sub [] rfl (t_X2_hasPerson_17 C hr  _ _ hf)
theorem d_X2_newPool_0 : decode cX2_newPool 0 = .ok (.aload_n 0, 1) := by decide +kernel
theorem d_X2_newPool_1 : decode cX2_newPool 1 = .ok (.getfield 36, 3) := by decide +kernel
theorem d_X2_newPool_4 : decode cX2_newPool 4 = .ok (.aload_n 0, 1) := by decide +kernel
theorem d_X2_newPool_5 : decode cX2_newPool 5 = .ok (.getfield 17, 3) := by decide +kernel
theorem d_X2_newPool_8 : decode cX2_newPool 8 = .ok (.arraylength, 1) := by decide +kernel
theorem d_X2_newPool_9 : decode cX2_newPool 9 = .ok (.if_icmp .lt 5, 3) := by decide +kernel
theorem d_X2_newPool_12 : decode cX2_newPool 12 = .ok (.aconst_null, 1) := by decide +kernel
theorem d_X2_newPool_13 : decode cX2_newPool 13 = .ok (.areturn, 1) := by decide +kernel
theorem d_X2_newPool_14 : decode cX2_newPool 14 = .ok (.aload_n 0, 1) := by decide +kernel
theorem d_X2_newPool_15 : decode cX2_newPool 15 = .ok (.dup, 1) := by decide +kernel
theorem d_X2_newPool_16 : decode cX2_newPool 16 = .ok (.getfield 36, 3) := by decide +kernel
theorem d_X2_newPool_19 : decode cX2_newPool 19 = .ok (.iconst 1, 1) := by decide +kernel
theorem d_X2_newPool_20 : decode cX2_newPool 20 = .ok (.iadd, 1) := by decide +kernel
theorem d_X2_newPool_21 : decode cX2_newPool 21 = .ok (.putfield 36, 3) := by decide +kernel
theorem d_X2_newPool_24 : decode cX2_newPool 24 = .ok (.aload_n 0, 1) := by decide +kernel
theorem d_X2_newPool_25 : decode cX2_newPool 25 = .ok (.getfield 17, 3) := by decide +kernel
theorem d_X2_newPool_28 : decode cX2_newPool 28 = .ok (.aload_n 0, 1) := by decide +kernel
theorem d_X2_newPool_29 : decode cX2_newPool 29 = .ok (.getfield 36, 3) := by decide +kernel
theorem d_X2_newPool_32 : decode cX2_newPool 32 = .ok (.iconst 1, 1) := by decide +kernel
theorem d_X2_newPool_33 : decode cX2_newPool 33 = .ok (.isub, 1) := by decide +kernel
theorem d_X2_newPool_34 : decode cX2_newPool 34 = .ok (.aaload, 1) := by decide +kernel
theorem d_X2_newPool_35 : decode cX2_newPool 35 = .ok (.areturn, 1) := by decide +kernel
/-- TickPools$Market.newPool()LTickPools$Pool; -/
def f_X2_newPool (h0 : Nat) (S : Mem) : Option (Nat × Mem) := (if kd h0 = (1, 9) then (if (gI S h0 2) < 5 then (if inb ((gI (sI S h0 2 ((gI S h0 2) + 1)) h0 2) - 1) 5 = true then (some (((h0 + 2) + 2 + 5 * ((((gI (sI S h0 2 ((gI S h0 2) + 1)) h0 2) - 1) : Int32).toNatClampNeg)), (sI S h0 2 ((gI S h0 2) + 1)))) else none) else (some (0, S))) else none)
set_option maxRecDepth 20000 in
theorem c_X2_newPool {l : Launch} {Γ : GG} (hI : Inj Γ) {h0 : Nat} {S : Mem} {q : Nat × Mem} (hf : f_X2_newPool h0 S = some q) : MM l Γ yX2_newPool cX2_newPool 1 (some (.object "TickPools$Pool")) 0 0 [aR h0] S (some (aR q.1)) q.2 := by
  refine met_of hI "TickPools$Market" rfl (by decide +kernel) (Nat.le_of_ble_eq_true rfl) (fun X hX C hr => ?_)
  unfold f_X2_newPool at hf
  show ZZ X Γ 1 _ S 0 [(0, aR h0)] []
  refine z_aload_n (j := 0) C d_X2_newPool_0 rfl ?_
  obtain ⟨hg1_0, hf⟩ := gd hf
  refine zg_X2_pools C hg1_0 tw_196 d_X2_newPool_1 ?_
  refine z_aload_n (j := 0) C d_X2_newPool_4 rfl ?_
  refine zg_X2_poolRow C hg1_0 tw_209 d_X2_newPool_5 ?_
  refine z_alen (v := 5) C (kdM2 hg1_0) (by decide) (by decide) d_X2_newPool_8 ?_
  refine z_icmp_lt (tgt := 14) C d_X2_newPool_9 (by decide) hf (fun c9 hf => ?_) (fun c9 hf => ?_)
  · refine z_aload_n (j := 0) C d_X2_newPool_14 rfl ?_
    refine z_dup C d_X2_newPool_15 rfl ?_
    refine zg_X2_pools C hg1_0 tw_196 d_X2_newPool_16 ?_
    refine z_iconst (v := 1) C d_X2_newPool_19 (by decide) ?_
    refine z_iadd C d_X2_newPool_20 ?_
    refine zp_X2_pools C hg1_0 tw_196 d_X2_newPool_21 ?_
    refine z_aload_n (j := 0) C d_X2_newPool_24 rfl ?_
    refine zg_X2_poolRow C hg1_0 tw_209 d_X2_newPool_25 ?_
    refine z_aload_n (j := 0) C d_X2_newPool_28 rfl ?_
    refine zg_X2_pools C hg1_0 tw_196 d_X2_newPool_29 ?_
    refine z_iconst (v := 1) C d_X2_newPool_32 (by decide) ?_
    refine z_isub C d_X2_newPool_33 ?_
    obtain ⟨hi34_0, hf⟩ := gd hf
    refine z_aldP C (kdM2 hg1_0) hi34_0 d_X2_newPool_34 ?_
    exact r_a C hr d_X2_newPool_35 hf
  · refine z_null C d_X2_newPool_12 ?_
    exact r_a C hr d_X2_newPool_13 hf
theorem d_X2_purseOf_0 : decode cX2_purseOf 0 = .ok (.iload_n 1, 1) := by decide +kernel
theorem d_X2_purseOf_1 : decode cX2_purseOf 1 = .ok (.iconst 5, 1) := by decide +kernel
theorem d_X2_purseOf_2 : decode cX2_purseOf 2 = .ok (.imul, 1) := by decide +kernel
theorem d_X2_purseOf_3 : decode cX2_purseOf 3 = .ok (.iload_n 2, 1) := by decide +kernel
theorem d_X2_purseOf_4 : decode cX2_purseOf 4 = .ok (.iadd, 1) := by decide +kernel
theorem d_X2_purseOf_5 : decode cX2_purseOf 5 = .ok (.istore_n 3, 1) := by decide +kernel
theorem d_X2_purseOf_6 : decode cX2_purseOf 6 = .ok (.iload_n 3, 1) := by decide +kernel
theorem d_X2_purseOf_7 : decode cX2_purseOf 7 = .ok (.ifCond .lt 21, 3) := by decide +kernel
theorem d_X2_purseOf_10 : decode cX2_purseOf 10 = .ok (.iload_n 3, 1) := by decide +kernel
theorem d_X2_purseOf_11 : decode cX2_purseOf 11 = .ok (.aload_n 0, 1) := by decide +kernel
theorem d_X2_purseOf_12 : decode cX2_purseOf 12 = .ok (.getfield 9, 3) := by decide +kernel
theorem d_X2_purseOf_15 : decode cX2_purseOf 15 = .ok (.arraylength, 1) := by decide +kernel
theorem d_X2_purseOf_16 : decode cX2_purseOf 16 = .ok (.if_icmp .ge 12, 3) := by decide +kernel
theorem d_X2_purseOf_19 : decode cX2_purseOf 19 = .ok (.aload_n 0, 1) := by decide +kernel
theorem d_X2_purseOf_20 : decode cX2_purseOf 20 = .ok (.getfield 9, 3) := by decide +kernel
theorem d_X2_purseOf_23 : decode cX2_purseOf 23 = .ok (.iload_n 3, 1) := by decide +kernel
theorem d_X2_purseOf_24 : decode cX2_purseOf 24 = .ok (.iaload, 1) := by decide +kernel
theorem d_X2_purseOf_25 : decode cX2_purseOf 25 = .ok (.goto 4, 3) := by decide +kernel
theorem d_X2_purseOf_28 : decode cX2_purseOf 28 = .ok (.iconst 0, 1) := by decide +kernel
theorem d_X2_purseOf_29 : decode cX2_purseOf 29 = .ok (.ireturn, 1) := by decide +kernel
def f_X2_purseOf_29 (s0 : Int32) (S : Mem) : Option (Int32 × Mem) := (some (s0, S))
set_option maxRecDepth 20000 in
theorem t_X2_purseOf_29 {X : MC} {Γ : GG} (C : CX X Γ cX2_purseOf 4 "TickPools$Market" 0 0) (hr : X.2.2.2.2.2.2.2.2.1.sig.returnType = some .int) {q : Int32 × Mem} (s0 : Int32) (S : Mem) (hf : f_X2_purseOf_29 s0 S = some q) : ZZ X Γ 4 (QQ X Γ (some (aI q.1)) q.2) S 29 [] [aI s0] := by
  unfold f_X2_purseOf_29 at hf
  exact r_i C hr rfl d_X2_purseOf_29 hf
def f_X2_purseOf_28 (S : Mem) : Option (Int32 × Mem) := (f_X2_purseOf_29  0 S)
set_option maxRecDepth 20000 in
theorem t_X2_purseOf_28 {X : MC} {Γ : GG} (C : CX X Γ cX2_purseOf 4 "TickPools$Market" 0 0) (hr : X.2.2.2.2.2.2.2.2.1.sig.returnType = some .int) {q : Int32 × Mem} (S : Mem) (hf : f_X2_purseOf_28 S = some q) : ZZ X Γ 4 (QQ X Γ (some (aI q.1)) q.2) S 28 [] [] := by
  unfold f_X2_purseOf_28 at hf
  refine z_iconst (v := 0) C d_X2_purseOf_28 (by decide) ?_
  exact z_sub [] rfl (t_X2_purseOf_29 C hr  _ _ hf)
def f_X2_purseOf_6 (v0 : Nat) (v3 : Int32) (S : Mem) : Option (Int32 × Mem) := (if v3 < 0 then (f_X2_purseOf_28  S) else (if kd v0 = (1, 9) then (if 20 ≤ v3 then (f_X2_purseOf_28  S) else (if inb v3 20 = true then (f_X2_purseOf_29  (gI S (v0 + 1) ((v3 : Int32).toNatClampNeg)) S) else none)) else none))
set_option maxRecDepth 20000 in
theorem t_X2_purseOf_6 {X : MC} {Γ : GG} (C : CX X Γ cX2_purseOf 4 "TickPools$Market" 0 0) (hr : X.2.2.2.2.2.2.2.2.1.sig.returnType = some .int) {q : Int32 × Mem} (v0 : Nat) (v3 : Int32) (S : Mem) (hf : f_X2_purseOf_6 v0 v3 S = some q) : ZZ X Γ 4 (QQ X Γ (some (aI q.1)) q.2) S 6 [(0, aR v0), (3, aI v3)] [] := by
  unfold f_X2_purseOf_6 at hf
  refine z_iload_n (j := 1) C d_X2_purseOf_6 rfl ?_
  refine z_if_lt (tgt := 28) C d_X2_purseOf_7 (by decide) hf (fun c7 hf => ?_) (fun c7 hf => ?_)
  · exact z_sub [] rfl (t_X2_purseOf_28 C hr  _ hf)
  · refine z_iload_n (j := 1) C d_X2_purseOf_10 rfl ?_
    refine z_aload_n (j := 0) C d_X2_purseOf_11 rfl ?_
    obtain ⟨hg12_0, hf⟩ := gd hf
    refine zg_X2_purses C hg12_0 tw_208 d_X2_purseOf_12 ?_
    refine z_alen (v := 20) C (kdM1 hg12_0) (by decide) (by decide) d_X2_purseOf_15 ?_
    refine z_icmp_ge (tgt := 28) C d_X2_purseOf_16 (by decide) hf (fun c16 hf => ?_) (fun c16 hf => ?_)
    · exact z_sub [] rfl (t_X2_purseOf_28 C hr  _ hf)
    · refine z_aload_n (j := 0) C d_X2_purseOf_19 rfl ?_
      refine zg_X2_purses C hg12_0 tw_208 d_X2_purseOf_20 ?_
      refine z_iload_n (j := 1) C d_X2_purseOf_23 rfl ?_
      obtain ⟨hi24_0, hf⟩ := gd hf
      refine z_iald C (kdM1 hg12_0) hi24_0 d_X2_purseOf_24 ?_
      refine z_goto (tgt := 29) C d_X2_purseOf_25 (by decide) ?_
      exact z_sub [] rfl (t_X2_purseOf_29 C hr  _ _ hf)
/-- TickPools$Market.purseOf(II)I -/
def f_X2_purseOf (h0 : Nat) (p1 : Int32) (p2 : Int32) (S : Mem) : Option (Int32 × Mem) := (f_X2_purseOf_6  h0 ((p1 * 5) + p2) S)
set_option maxRecDepth 20000 in
theorem c_X2_purseOf {l : Launch} {Γ : GG} (hI : Inj Γ) {h0 : Nat} {p1 : Int32} {p2 : Int32} {S : Mem} {q : Int32 × Mem} (hf : f_X2_purseOf h0 p1 p2 S = some q) : MM l Γ yX2_purseOf cX2_purseOf 4 (some .int) 0 0 [aR h0, aI p1, aI p2] S (some (aI q.1)) q.2 := by
  refine met_of hI "TickPools$Market" rfl (by decide +kernel) (Nat.le_of_ble_eq_true rfl) (fun X hX C hr => ?_)
  unfold f_X2_purseOf at hf
  show ZZ X Γ 4 _ S 0 [(0, aR h0), (1, aI p1), (2, aI p2)] []
  refine z_iload_n (j := 1) C d_X2_purseOf_0 rfl ?_
  refine z_iconst (v := 5) C d_X2_purseOf_1 (by decide) ?_
  refine z_imul C d_X2_purseOf_2 ?_
  refine z_iload_n (j := 2) C d_X2_purseOf_3 rfl ?_
  refine z_iadd C d_X2_purseOf_4 ?_
  refine z_istore_n (lv' := [(3, aI ((p1 * 5) + p2)), (0, aR h0), (1, aI p1), (2, aI p2)]) C d_X2_purseOf_5 (by decide) rfl ?_
  exact z_sub [1, 0] rfl (t_X2_purseOf_6 C hr  _ _ _ hf)
theorem d_X4_heldOn_0 : decode cX4_heldOn 0 = .ok (.iload_n 1, 1) := by decide +kernel
theorem d_X4_heldOn_1 : decode cX4_heldOn 1 = .ok (.invokestatic 65, 3) := by decide +kernel
theorem d_X4_heldOn_4 : decode cX4_heldOn 4 = .ok (.ifCond .eq 12, 3) := by decide +kernel
theorem d_X4_heldOn_7 : decode cX4_heldOn 7 = .ok (.aload_n 0, 1) := by decide +kernel
theorem d_X4_heldOn_8 : decode cX4_heldOn 8 = .ok (.getfield 9, 3) := by decide +kernel
theorem d_X4_heldOn_11 : decode cX4_heldOn 11 = .ok (.iload_n 1, 1) := by decide +kernel
theorem d_X4_heldOn_12 : decode cX4_heldOn 12 = .ok (.iaload, 1) := by decide +kernel
theorem d_X4_heldOn_13 : decode cX4_heldOn 13 = .ok (.goto 4, 3) := by decide +kernel
theorem d_X4_heldOn_16 : decode cX4_heldOn 16 = .ok (.iconst 0, 1) := by decide +kernel
theorem d_X4_heldOn_17 : decode cX4_heldOn 17 = .ok (.ireturn, 1) := by decide +kernel
def f_X4_heldOn_17 (s0 : Int32) (S : Mem) : Option (Int32 × Mem) := (some (s0, S))
set_option maxRecDepth 20000 in
theorem t_X4_heldOn_17 {X : MC} {Γ : GG} (C : CX X Γ cX4_heldOn 2 "TickPools$Pool" 1 20) (hr : X.2.2.2.2.2.2.2.2.1.sig.returnType = some .int) {q : Int32 × Mem} (s0 : Int32) (S : Mem) (hf : f_X4_heldOn_17 s0 S = some q) : ZZ X Γ 2 (QQ X Γ (some (aI q.1)) q.2) S 17 [] [aI s0] := by
  unfold f_X4_heldOn_17 at hf
  exact r_i C hr rfl d_X4_heldOn_17 hf
/-- TickPools$Pool.heldOn(I)I -/
def f_X4_heldOn (h0 : Nat) (p1 : Int32) (S : Mem) : Option (Int32 × Mem) := ((f_X11_isSide p1 S).bind fun q1 => (if q1.1 = 0 then (f_X4_heldOn_17  0 q1.2) else (if kd h0 = (3, 12) then (if inb p1 2 = true then (f_X4_heldOn_17  (gI q1.2 (h0 + 1) ((p1 : Int32).toNatClampNeg)) q1.2) else none) else none)))
set_option maxRecDepth 20000 in
theorem c_X4_heldOn {l : Launch} {Γ : GG} (hI : Inj Γ) {h0 : Nat} {p1 : Int32} {S : Mem} {q : Int32 × Mem} (hf : f_X4_heldOn h0 p1 S = some q) : MM l Γ yX4_heldOn cX4_heldOn 2 (some .int) 1 20 [aR h0, aI p1] S (some (aI q.1)) q.2 := by
  refine met_of hI "TickPools$Pool" rfl (by decide +kernel) (Nat.le_of_ble_eq_true rfl) (fun X hX C hr => ?_)
  unfold f_X4_heldOn at hf
  show ZZ X Γ 2 _ S 0 [(0, aR h0), (1, aI p1)] []
  refine z_iload_n (j := 1) C d_X4_heldOn_0 rfl ?_
  obtain ⟨q1, hF, hf⟩ := bd hf
  refine z_callSN1 (rest := []) C [aI p1] k_X11_isSide (nw_5) ⟨by decide, by decide⟩ (Nat.le_of_ble_eq_true rfl) d_X4_heldOn_1 (c_X11_isSide C.inj hF) rfl ?_
  refine z_if_eq (tgt := 16) C d_X4_heldOn_4 (by decide) hf (fun c4 hf => ?_) (fun c4 hf => ?_)
  · refine z_iconst (v := 0) C d_X4_heldOn_16 (by decide) ?_
    exact z_sub [] rfl (t_X4_heldOn_17 C hr  _ _ hf)
  · refine z_aload_n (j := 0) C d_X4_heldOn_7 rfl ?_
    obtain ⟨hg8_0, hf⟩ := gd hf
    refine zg_X4_held C hg8_0 tw_106 d_X4_heldOn_8 ?_
    refine z_iload_n (j := 1) C d_X4_heldOn_11 rfl ?_
    obtain ⟨hi12_1, hf⟩ := gd hf
    refine z_iald C (kdP1 hg8_0) hi12_1 d_X4_heldOn_12 ?_
    refine z_goto (tgt := 17) C d_X4_heldOn_13 (by decide) ?_
    exact z_sub [] rfl (t_X4_heldOn_17 C hr  _ _ hf)
theorem d_X2_allOf_0 : decode cX2_allOf 0 = .ok (.iconst 0, 1) := by decide +kernel
theorem d_X2_allOf_1 : decode cX2_allOf 1 = .ok (.istore_n 2, 1) := by decide +kernel
theorem d_X2_allOf_2 : decode cX2_allOf 2 = .ok (.iconst 0, 1) := by decide +kernel
theorem d_X2_allOf_3 : decode cX2_allOf 3 = .ok (.istore_n 3, 1) := by decide +kernel
theorem d_X2_allOf_4 : decode cX2_allOf 4 = .ok (.iload_n 3, 1) := by decide +kernel
theorem d_X2_allOf_5 : decode cX2_allOf 5 = .ok (.aload_n 0, 1) := by decide +kernel
theorem d_X2_allOf_6 : decode cX2_allOf 6 = .ok (.getfield 33, 3) := by decide +kernel
theorem d_X2_allOf_9 : decode cX2_allOf 9 = .ok (.if_icmp .ge 18, 3) := by decide +kernel
theorem d_X2_allOf_12 : decode cX2_allOf 12 = .ok (.iload_n 2, 1) := by decide +kernel
theorem d_X2_allOf_13 : decode cX2_allOf 13 = .ok (.aload_n 0, 1) := by decide +kernel
theorem d_X2_allOf_14 : decode cX2_allOf 14 = .ok (.iload_n 3, 1) := by decide +kernel
theorem d_X2_allOf_15 : decode cX2_allOf 15 = .ok (.iload_n 1, 1) := by decide +kernel
theorem d_X2_allOf_16 : decode cX2_allOf 16 = .ok (.invokevirtual 76, 3) := by decide +kernel
theorem d_X2_allOf_19 : decode cX2_allOf 19 = .ok (.iadd, 1) := by decide +kernel
theorem d_X2_allOf_20 : decode cX2_allOf 20 = .ok (.istore_n 2, 1) := by decide +kernel
theorem d_X2_allOf_21 : decode cX2_allOf 21 = .ok (.iinc 3 1, 3) := by decide +kernel
theorem d_X2_allOf_24 : decode cX2_allOf 24 = .ok (.goto (-20), 3) := by decide +kernel
theorem d_X2_allOf_27 : decode cX2_allOf 27 = .ok (.iconst 0, 1) := by decide +kernel
theorem d_X2_allOf_28 : decode cX2_allOf 28 = .ok (.istore_n 3, 1) := by decide +kernel
theorem d_X2_allOf_29 : decode cX2_allOf 29 = .ok (.iload_n 3, 1) := by decide +kernel
theorem d_X2_allOf_30 : decode cX2_allOf 30 = .ok (.aload_n 0, 1) := by decide +kernel
theorem d_X2_allOf_31 : decode cX2_allOf 31 = .ok (.getfield 36, 3) := by decide +kernel
theorem d_X2_allOf_34 : decode cX2_allOf 34 = .ok (.if_icmp .ge 44, 3) := by decide +kernel
theorem d_X2_allOf_37 : decode cX2_allOf 37 = .ok (.iload_n 3, 1) := by decide +kernel
theorem d_X2_allOf_38 : decode cX2_allOf 38 = .ok (.aload_n 0, 1) := by decide +kernel
theorem d_X2_allOf_39 : decode cX2_allOf 39 = .ok (.getfield 17, 3) := by decide +kernel
theorem d_X2_allOf_42 : decode cX2_allOf 42 = .ok (.arraylength, 1) := by decide +kernel
theorem d_X2_allOf_43 : decode cX2_allOf 43 = .ok (.if_icmp .ge 35, 3) := by decide +kernel
theorem d_X2_allOf_46 : decode cX2_allOf 46 = .ok (.aload_n 0, 1) := by decide +kernel
theorem d_X2_allOf_47 : decode cX2_allOf 47 = .ok (.getfield 17, 3) := by decide +kernel
theorem d_X2_allOf_50 : decode cX2_allOf 50 = .ok (.iload_n 3, 1) := by decide +kernel
theorem d_X2_allOf_51 : decode cX2_allOf 51 = .ok (.aaload, 1) := by decide +kernel
theorem d_X2_allOf_52 : decode cX2_allOf 52 = .ok (.iload_n 1, 1) := by decide +kernel
theorem d_X2_allOf_53 : decode cX2_allOf 53 = .ok (.invokevirtual 80, 3) := by decide +kernel
theorem d_X2_allOf_56 : decode cX2_allOf 56 = .ok (.istore 4, 2) := by decide +kernel
theorem d_X2_allOf_58 : decode cX2_allOf 58 = .ok (.iload_n 2, 1) := by decide +kernel
theorem d_X2_allOf_59 : decode cX2_allOf 59 = .ok (.aload_n 0, 1) := by decide +kernel
theorem d_X2_allOf_60 : decode cX2_allOf 60 = .ok (.getfield 17, 3) := by decide +kernel
theorem d_X2_allOf_63 : decode cX2_allOf 63 = .ok (.iload_n 3, 1) := by decide +kernel
theorem d_X2_allOf_64 : decode cX2_allOf 64 = .ok (.aaload, 1) := by decide +kernel
theorem d_X2_allOf_65 : decode cX2_allOf 65 = .ok (.iload 4, 2) := by decide +kernel
theorem d_X2_allOf_67 : decode cX2_allOf 67 = .ok (.invokevirtual 83, 3) := by decide +kernel
theorem d_X2_allOf_70 : decode cX2_allOf 70 = .ok (.iadd, 1) := by decide +kernel
theorem d_X2_allOf_71 : decode cX2_allOf 71 = .ok (.istore_n 2, 1) := by decide +kernel
theorem d_X2_allOf_72 : decode cX2_allOf 72 = .ok (.iinc 3 1, 3) := by decide +kernel
theorem d_X2_allOf_75 : decode cX2_allOf 75 = .ok (.goto (-46), 3) := by decide +kernel
theorem d_X2_allOf_78 : decode cX2_allOf 78 = .ok (.iload_n 2, 1) := by decide +kernel
theorem d_X2_allOf_79 : decode cX2_allOf 79 = .ok (.ireturn, 1) := by decide +kernel
def f_X2_allOf_21 (k4 : Nat → Int32 → Int32 → Int32 → Mem → Option (Int32 × Mem)) (v0 : Nat) (v1 : Int32) (v2 : Int32) (v3 : Int32) (S : Mem) : Option (Int32 × Mem) := (k4 v0 v1 v2 (v3 + 1) S)
set_option maxRecDepth 20000 in
theorem t_X2_allOf_21 {X : MC} {Γ : GG} (C : CX X Γ cX2_allOf 5 "TickPools$Market" 2 41) (hr : X.2.2.2.2.2.2.2.2.1.sig.returnType = some .int) {k4 : Nat → Int32 → Int32 → Int32 → Mem → Option (Int32 × Mem)} {q : Int32 × Mem} (hk4 : ∀ (v0 : Nat) (v1 : Int32) (v2 : Int32) (v3 : Int32) (S : Mem), k4 v0 v1 v2 v3 S = some q → ZZ X Γ 5 (QQ X Γ (some (aI q.1)) q.2) S 4 [(0, aR v0), (1, aI v1), (2, aI v2), (3, aI v3)] []) (v0 : Nat) (v1 : Int32) (v2 : Int32) (v3 : Int32) (S : Mem) (hf : f_X2_allOf_21 k4 v0 v1 v2 v3 S = some q) : ZZ X Γ 5 (QQ X Γ (some (aI q.1)) q.2) S 21 [(0, aR v0), (1, aI v1), (2, aI v2), (3, aI v3)] [] := by
  unfold f_X2_allOf_21 at hf
  refine z_iinc (j := 3) (v := (v3 + 1)) (lv' := [(3, aI (v3 + 1)), (0, aR v0), (1, aI v1), (2, aI v2)]) C d_X2_allOf_21 rfl rfl (by decide) rfl ?_
  refine z_goto (tgt := 4) C d_X2_allOf_24 (by decide) ?_
  exact z_sub [1, 2, 3, 0] rfl (hk4 _ _ _ _ _ hf)
def f_X2_allOf_72 (k29 : Nat → Int32 → Int32 → Int32 → Mem → Option (Int32 × Mem)) (v0 : Nat) (v1 : Int32) (v2 : Int32) (v3 : Int32) (S : Mem) : Option (Int32 × Mem) := (k29 v0 v1 v2 (v3 + 1) S)
set_option maxRecDepth 20000 in
theorem t_X2_allOf_72 {X : MC} {Γ : GG} (C : CX X Γ cX2_allOf 5 "TickPools$Market" 2 41) (hr : X.2.2.2.2.2.2.2.2.1.sig.returnType = some .int) {k29 : Nat → Int32 → Int32 → Int32 → Mem → Option (Int32 × Mem)} {q : Int32 × Mem} (hk29 : ∀ (v0 : Nat) (v1 : Int32) (v2 : Int32) (v3 : Int32) (S : Mem), k29 v0 v1 v2 v3 S = some q → ZZ X Γ 5 (QQ X Γ (some (aI q.1)) q.2) S 29 [(0, aR v0), (1, aI v1), (2, aI v2), (3, aI v3)] []) (v0 : Nat) (v1 : Int32) (v2 : Int32) (v3 : Int32) (S : Mem) (hf : f_X2_allOf_72 k29 v0 v1 v2 v3 S = some q) : ZZ X Γ 5 (QQ X Γ (some (aI q.1)) q.2) S 72 [(0, aR v0), (1, aI v1), (2, aI v2), (3, aI v3)] [] := by
  unfold f_X2_allOf_72 at hf
  refine z_iinc (j := 3) (v := (v3 + 1)) (lv' := [(3, aI (v3 + 1)), (0, aR v0), (1, aI v1), (2, aI v2)]) C d_X2_allOf_72 rfl rfl (by decide) rfl ?_
  refine z_goto (tgt := 29) C d_X2_allOf_75 (by decide) ?_
  exact z_sub [1, 2, 3, 0] rfl (hk29 _ _ _ _ _ hf)
def f_X2_allOf_78 (v2 : Int32) (S : Mem) : Option (Int32 × Mem) := (some (v2, S))
set_option maxRecDepth 20000 in
theorem t_X2_allOf_78 {X : MC} {Γ : GG} (C : CX X Γ cX2_allOf 5 "TickPools$Market" 2 41) (hr : X.2.2.2.2.2.2.2.2.1.sig.returnType = some .int) {q : Int32 × Mem} (v2 : Int32) (S : Mem) (hf : f_X2_allOf_78 v2 S = some q) : ZZ X Γ 5 (QQ X Γ (some (aI q.1)) q.2) S 78 [(2, aI v2)] [] := by
  unfold f_X2_allOf_78 at hf
  refine z_iload_n (j := 0) C d_X2_allOf_78 rfl ?_
  exact r_i C hr rfl d_X2_allOf_79 hf
def f_X2_allOf_29B (k29 : Nat → Int32 → Int32 → Int32 → Mem → Option (Int32 × Mem)) (v0 : Nat) (v1 : Int32) (v2 : Int32) (v3 : Int32) (S : Mem) : Option (Int32 × Mem) := (if kd v0 = (1, 9) then (if (gI S v0 2) ≤ v3 then (f_X2_allOf_78  v2 S) else (if 5 ≤ v3 then (f_X2_allOf_78  v2 S) else (if inb v3 5 = true then ((f_X4_sideOf ((v0 + 2) + 2 + 5 * ((v3 : Int32).toNatClampNeg)) v1 S).bind fun q53 => (if inb v3 5 = true then ((f_X4_heldOn ((v0 + 2) + 2 + 5 * ((v3 : Int32).toNatClampNeg)) q53.1 q53.2).bind fun q67 => (f_X2_allOf_72 k29 v0 v1 (v2 + q67.1) v3 q67.2)) else none)) else none))) else none)
set_option maxRecDepth 20000 in
theorem t_X2_allOf_29B {X : MC} {Γ : GG} (C : CX X Γ cX2_allOf 5 "TickPools$Market" 2 41) (hr : X.2.2.2.2.2.2.2.2.1.sig.returnType = some .int) {k29 : Nat → Int32 → Int32 → Int32 → Mem → Option (Int32 × Mem)} {q : Int32 × Mem} (hk29 : ∀ (v0 : Nat) (v1 : Int32) (v2 : Int32) (v3 : Int32) (S : Mem), k29 v0 v1 v2 v3 S = some q → ZZ X Γ 5 (QQ X Γ (some (aI q.1)) q.2) S 29 [(0, aR v0), (1, aI v1), (2, aI v2), (3, aI v3)] []) (v0 : Nat) (v1 : Int32) (v2 : Int32) (v3 : Int32) (S : Mem) (hf : f_X2_allOf_29B k29 v0 v1 v2 v3 S = some q) : ZZ X Γ 5 (QQ X Γ (some (aI q.1)) q.2) S 29 [(0, aR v0), (1, aI v1), (2, aI v2), (3, aI v3)] [] := by
  unfold f_X2_allOf_29B at hf
  refine z_iload_n (j := 3) C d_X2_allOf_29 rfl ?_
  refine z_aload_n (j := 0) C d_X2_allOf_30 rfl ?_
  obtain ⟨hg31_0, hf⟩ := gd hf
  refine zg_X2_pools C hg31_0 tw_196 d_X2_allOf_31 ?_
  refine z_icmp_ge (tgt := 78) C d_X2_allOf_34 (by decide) hf (fun c34 hf => ?_) (fun c34 hf => ?_)
  · exact z_sub [2] rfl (t_X2_allOf_78 C hr  _ _ hf)
  · refine z_iload_n (j := 3) C d_X2_allOf_37 rfl ?_
    refine z_aload_n (j := 0) C d_X2_allOf_38 rfl ?_
    refine zg_X2_poolRow C hg31_0 tw_209 d_X2_allOf_39 ?_
    refine z_alen (v := 5) C (kdM2 hg31_0) (by decide) (by decide) d_X2_allOf_42 ?_
    refine z_icmp_ge (tgt := 78) C d_X2_allOf_43 (by decide) hf (fun c43 hf => ?_) (fun c43 hf => ?_)
    · exact z_sub [2] rfl (t_X2_allOf_78 C hr  _ _ hf)
    · refine z_aload_n (j := 0) C d_X2_allOf_46 rfl ?_
      refine zg_X2_poolRow C hg31_0 tw_209 d_X2_allOf_47 ?_
      refine z_iload_n (j := 3) C d_X2_allOf_50 rfl ?_
      obtain ⟨hi51_0, hf⟩ := gd hf
      refine z_aldP C (kdM2 hg31_0) hi51_0 d_X2_allOf_51 ?_
      refine z_iload_n (j := 1) C d_X2_allOf_52 rfl ?_
      obtain ⟨q53, hF, hf⟩ := bd hf
      refine z_callV1 (rest := []) C [aI v1] (kdPool (kdM2 hg31_0) hi51_0) (by decide) rfl rfl k_X4_sideOf tw_1187 ⟨by decide, by decide⟩ (Nat.le_of_ble_eq_true rfl) d_X2_allOf_53 (c_X4_sideOf C.inj hF) rfl ?_
      refine z_istore (lv' := [(4, aI q53.1), (0, aR v0), (1, aI v1), (2, aI v2), (3, aI v3)]) C d_X2_allOf_56 (by decide) rfl ?_
      refine z_iload_n (j := 3) C d_X2_allOf_58 rfl ?_
      refine z_aload_n (j := 1) C d_X2_allOf_59 rfl ?_
      refine zg_X2_poolRow C hg31_0 tw_209 d_X2_allOf_60 ?_
      refine z_iload_n (j := 4) C d_X2_allOf_63 rfl ?_
      obtain ⟨hi64_2, hf⟩ := gd hf
      refine z_aldP C (kdM2 hg31_0) hi64_2 d_X2_allOf_64 ?_
      refine z_iload (j := 0) C d_X2_allOf_65 rfl ?_
      obtain ⟨q67, hF, hf⟩ := bd hf
      refine z_callV1 (rest := [aI v2]) C [aI q53.1] (kdPool (kdM2 hg31_0) hi64_2) (by decide) rfl rfl k_X4_heldOn tw_1188 ⟨by decide, by decide⟩ (Nat.le_of_ble_eq_true rfl) d_X2_allOf_67 (c_X4_heldOn C.inj hF) rfl ?_
      refine z_iadd C d_X2_allOf_70 ?_
      refine z_istore_n (lv' := [(2, aI (v2 + q67.1)), (4, aI q53.1), (0, aR v0), (1, aI v1), (3, aI v3)]) C d_X2_allOf_71 (by decide) rfl ?_
      exact z_sub [2, 3, 0, 4] rfl (t_X2_allOf_72 C hr hk29 _ _ _ _ _ hf)
def f_X2_allOf_29 : Nat → Nat → Int32 → Int32 → Int32 → Mem → Option (Int32 × Mem)
  | 0 => fun _ _ _ _ _ => none
  | n + 1 => f_X2_allOf_29B (f_X2_allOf_29 n)
theorem t_X2_allOf_29 {X : MC} {Γ : GG} (C : CX X Γ cX2_allOf 5 "TickPools$Market" 2 41) (hr : X.2.2.2.2.2.2.2.2.1.sig.returnType = some .int) {q : Int32 × Mem} : ∀ (n : Nat) (v0 : Nat) (v1 : Int32) (v2 : Int32) (v3 : Int32) (S : Mem) (hf : f_X2_allOf_29 n v0 v1 v2 v3 S = some q), ZZ X Γ 5 (QQ X Γ (some (aI q.1)) q.2) S 29 [(0, aR v0), (1, aI v1), (2, aI v2), (3, aI v3)] []
  | 0, _, _, _, _, _, hf => nomatch (show (none : Option (Int32 × Mem)) = some q from hf)
  | n + 1, v0, v1, v2, v3, S, hf => t_X2_allOf_29B C hr (t_X2_allOf_29 C hr n) v0 v1 v2 v3 S hf
def f_X2_allOf_4B (k4 : Nat → Int32 → Int32 → Int32 → Mem → Option (Int32 × Mem)) (v0 : Nat) (v1 : Int32) (v2 : Int32) (v3 : Int32) (S : Mem) : Option (Int32 × Mem) := (if kd v0 = (1, 9) then (if (gI S v0 1) ≤ v3 then (f_X2_allOf_29  100000 v0 v1 v2 0 S) else ((f_X2_purseOf v0 v3 v1 S).bind fun q16 => (f_X2_allOf_21 k4 v0 v1 (v2 + q16.1) v3 q16.2))) else none)
set_option maxRecDepth 20000 in
theorem t_X2_allOf_4B {X : MC} {Γ : GG} (C : CX X Γ cX2_allOf 5 "TickPools$Market" 2 41) (hr : X.2.2.2.2.2.2.2.2.1.sig.returnType = some .int) {k4 : Nat → Int32 → Int32 → Int32 → Mem → Option (Int32 × Mem)} {q : Int32 × Mem} (hk4 : ∀ (v0 : Nat) (v1 : Int32) (v2 : Int32) (v3 : Int32) (S : Mem), k4 v0 v1 v2 v3 S = some q → ZZ X Γ 5 (QQ X Γ (some (aI q.1)) q.2) S 4 [(0, aR v0), (1, aI v1), (2, aI v2), (3, aI v3)] []) (v0 : Nat) (v1 : Int32) (v2 : Int32) (v3 : Int32) (S : Mem) (hf : f_X2_allOf_4B k4 v0 v1 v2 v3 S = some q) : ZZ X Γ 5 (QQ X Γ (some (aI q.1)) q.2) S 4 [(0, aR v0), (1, aI v1), (2, aI v2), (3, aI v3)] [] := by
  unfold f_X2_allOf_4B at hf
  refine z_iload_n (j := 3) C d_X2_allOf_4 rfl ?_
  refine z_aload_n (j := 0) C d_X2_allOf_5 rfl ?_
  obtain ⟨hg6_0, hf⟩ := gd hf
  refine zg_X2_people C hg6_0 tw_193 d_X2_allOf_6 ?_
  refine z_icmp_ge (tgt := 27) C d_X2_allOf_9 (by decide) hf (fun c9 hf => ?_) (fun c9 hf => ?_)
  · refine z_iconst (v := 0) C d_X2_allOf_27 (by decide) ?_
    refine z_istore_n (lv' := [(3, aI 0), (0, aR v0), (1, aI v1), (2, aI v2)]) C d_X2_allOf_28 (by decide) rfl ?_
    exact z_sub [1, 2, 3, 0] rfl (t_X2_allOf_29 C hr  100000 _ _ _ _ _ hf)
  · refine z_iload_n (j := 2) C d_X2_allOf_12 rfl ?_
    refine z_aload_n (j := 0) C d_X2_allOf_13 rfl ?_
    refine z_iload_n (j := 3) C d_X2_allOf_14 rfl ?_
    refine z_iload_n (j := 1) C d_X2_allOf_15 rfl ?_
    obtain ⟨q16, hF, hf⟩ := bd hf
    refine z_callV1 (rest := [aI v2]) C [aI v3, aI v1] hg6_0 (by decide) rfl rfl k_X2_purseOf tw_976 ⟨by decide, by decide⟩ (Nat.le_of_ble_eq_true rfl) d_X2_allOf_16 (c_X2_purseOf C.inj hF) rfl ?_
    refine z_iadd C d_X2_allOf_19 ?_
    refine z_istore_n (lv' := [(2, aI (v2 + q16.1)), (0, aR v0), (1, aI v1), (3, aI v3)]) C d_X2_allOf_20 (by decide) rfl ?_
    exact z_sub [1, 2, 0, 3] rfl (t_X2_allOf_21 C hr hk4 _ _ _ _ _ hf)
def f_X2_allOf_4 : Nat → Nat → Int32 → Int32 → Int32 → Mem → Option (Int32 × Mem)
  | 0 => fun _ _ _ _ _ => none
  | n + 1 => f_X2_allOf_4B (f_X2_allOf_4 n)
theorem t_X2_allOf_4 {X : MC} {Γ : GG} (C : CX X Γ cX2_allOf 5 "TickPools$Market" 2 41) (hr : X.2.2.2.2.2.2.2.2.1.sig.returnType = some .int) {q : Int32 × Mem} : ∀ (n : Nat) (v0 : Nat) (v1 : Int32) (v2 : Int32) (v3 : Int32) (S : Mem) (hf : f_X2_allOf_4 n v0 v1 v2 v3 S = some q), ZZ X Γ 5 (QQ X Γ (some (aI q.1)) q.2) S 4 [(0, aR v0), (1, aI v1), (2, aI v2), (3, aI v3)] []
  | 0, _, _, _, _, _, hf => nomatch (show (none : Option (Int32 × Mem)) = some q from hf)
  | n + 1, v0, v1, v2, v3, S, hf => t_X2_allOf_4B C hr (t_X2_allOf_4 C hr n) v0 v1 v2 v3 S hf
/-- TickPools$Market.allOf(I)I -/
def f_X2_allOf (h0 : Nat) (p1 : Int32) (S : Mem) : Option (Int32 × Mem) := (f_X2_allOf_4  100000 h0 p1 0 0 S)
set_option maxRecDepth 20000 in
theorem c_X2_allOf {l : Launch} {Γ : GG} (hI : Inj Γ) {h0 : Nat} {p1 : Int32} {S : Mem} {q : Int32 × Mem} (hf : f_X2_allOf h0 p1 S = some q) : MM l Γ yX2_allOf cX2_allOf 5 (some .int) 2 41 [aR h0, aI p1] S (some (aI q.1)) q.2 := by
  refine met_of hI "TickPools$Market" rfl (by decide +kernel) (Nat.le_of_ble_eq_true rfl) (fun X hX C hr => ?_)
  unfold f_X2_allOf at hf
  show ZZ X Γ 5 _ S 0 [(0, aR h0), (1, aI p1)] []
  refine z_iconst (v := 0) C d_X2_allOf_0 (by decide) ?_
  refine z_istore_n (lv' := [(2, aI 0), (0, aR h0), (1, aI p1)]) C d_X2_allOf_1 (by decide) rfl ?_
  refine z_iconst (v := 0) C d_X2_allOf_2 (by decide) ?_
  refine z_istore_n (lv' := [(3, aI 0), (2, aI 0), (0, aR h0), (1, aI p1)]) C d_X2_allOf_3 (by decide) rfl ?_
  exact z_sub [2, 3, 1, 0] rfl (t_X2_allOf_4 C hr  100000 _ _ _ _ _ hf)
theorem d_X2_overIn_0 : decode cX2_overIn 0 = .ok (.aload_n 0, 1) := by decide +kernel
theorem d_X2_overIn_1 : decode cX2_overIn 1 = .ok (.iload_n 1, 1) := by decide +kernel
theorem d_X2_overIn_2 : decode cX2_overIn 2 = .ok (.invokevirtual 102, 3) := by decide +kernel
theorem d_X2_overIn_5 : decode cX2_overIn 5 = .ok (.astore_n 3, 1) := by decide +kernel
theorem d_X2_overIn_6 : decode cX2_overIn 6 = .ok (.aload_n 3, 1) := by decide +kernel
theorem d_X2_overIn_7 : decode cX2_overIn 7 = .ok (.ifnull 10, 3) := by decide +kernel
theorem d_X2_overIn_10 : decode cX2_overIn 10 = .ok (.iload_n 2, 1) := by decide +kernel
theorem d_X2_overIn_11 : decode cX2_overIn 11 = .ok (.invokestatic 61, 3) := by decide +kernel
theorem d_X2_overIn_14 : decode cX2_overIn 14 = .ok (.ifCond .ne 5, 3) := by decide +kernel
theorem d_X2_overIn_17 : decode cX2_overIn 17 = .ok (.lconst 0, 1) := by decide +kernel
theorem d_X2_overIn_18 : decode cX2_overIn 18 = .ok (.lreturn, 1) := by decide +kernel
theorem d_X2_overIn_19 : decode cX2_overIn 19 = .ok (.aload_n 3, 1) := by decide +kernel
theorem d_X2_overIn_20 : decode cX2_overIn 20 = .ok (.getfield 65, 3) := by decide +kernel
theorem d_X2_overIn_23 : decode cX2_overIn 23 = .ok (.iload_n 2, 1) := by decide +kernel
theorem d_X2_overIn_24 : decode cX2_overIn 24 = .ok (.iaload, 1) := by decide +kernel
theorem d_X2_overIn_25 : decode cX2_overIn 25 = .ok (.aload_n 3, 1) := by decide +kernel
theorem d_X2_overIn_26 : decode cX2_overIn 26 = .ok (.getfield 106, 3) := by decide +kernel
theorem d_X2_overIn_29 : decode cX2_overIn 29 = .ok (.iload_n 2, 1) := by decide +kernel
theorem d_X2_overIn_30 : decode cX2_overIn 30 = .ok (.iaload, 1) := by decide +kernel
theorem d_X2_overIn_31 : decode cX2_overIn 31 = .ok (.isub, 1) := by decide +kernel
theorem d_X2_overIn_32 : decode cX2_overIn 32 = .ok (.i2l, 1) := by decide +kernel
theorem d_X2_overIn_33 : decode cX2_overIn 33 = .ok (.lstore 4, 2) := by decide +kernel
theorem d_X2_overIn_35 : decode cX2_overIn 35 = .ok (.iconst 0, 1) := by decide +kernel
theorem d_X2_overIn_36 : decode cX2_overIn 36 = .ok (.istore 6, 2) := by decide +kernel
theorem d_X2_overIn_38 : decode cX2_overIn 38 = .ok (.iload 6, 2) := by decide +kernel
theorem d_X2_overIn_40 : decode cX2_overIn 40 = .ok (.aload_n 0, 1) := by decide +kernel
theorem d_X2_overIn_41 : decode cX2_overIn 41 = .ok (.getfield 39, 3) := by decide +kernel
theorem d_X2_overIn_44 : decode cX2_overIn 44 = .ok (.if_icmp .ge 63, 3) := by decide +kernel
theorem d_X2_overIn_47 : decode cX2_overIn 47 = .ok (.iload 6, 2) := by decide +kernel
theorem d_X2_overIn_49 : decode cX2_overIn 49 = .ok (.aload_n 0, 1) := by decide +kernel
theorem d_X2_overIn_50 : decode cX2_overIn 50 = .ok (.getfield 24, 3) := by decide +kernel
theorem d_X2_overIn_53 : decode cX2_overIn 53 = .ok (.arraylength, 1) := by decide +kernel
theorem d_X2_overIn_54 : decode cX2_overIn 54 = .ok (.if_icmp .ge 53, 3) := by decide +kernel
theorem d_X2_overIn_57 : decode cX2_overIn 57 = .ok (.aload_n 0, 1) := by decide +kernel
theorem d_X2_overIn_58 : decode cX2_overIn 58 = .ok (.getfield 24, 3) := by decide +kernel
theorem d_X2_overIn_61 : decode cX2_overIn 61 = .ok (.iload 6, 2) := by decide +kernel
theorem d_X2_overIn_63 : decode cX2_overIn 63 = .ok (.aaload, 1) := by decide +kernel
theorem d_X2_overIn_64 : decode cX2_overIn 64 = .ok (.astore 7, 2) := by decide +kernel
theorem d_X2_overIn_66 : decode cX2_overIn 66 = .ok (.aload 7, 2) := by decide +kernel
theorem d_X2_overIn_68 : decode cX2_overIn 68 = .ok (.getfield 86, 3) := by decide +kernel
theorem d_X2_overIn_71 : decode cX2_overIn 71 = .ok (.iload_n 1, 1) := by decide +kernel
theorem d_X2_overIn_72 : decode cX2_overIn 72 = .ok (.if_icmp .ne 29, 3) := by decide +kernel
theorem d_X2_overIn_75 : decode cX2_overIn 75 = .ok (.lload 4, 2) := by decide +kernel
theorem d_X2_overIn_77 : decode cX2_overIn 77 = .ok (.aload 7, 2) := by decide +kernel
theorem d_X2_overIn_79 : decode cX2_overIn 79 = .ok (.aload_n 3, 1) := by decide +kernel
theorem d_X2_overIn_80 : decode cX2_overIn 80 = .ok (.aload 7, 2) := by decide +kernel
theorem d_X2_overIn_82 : decode cX2_overIn 82 = .ok (.getfield 95, 3) := by decide +kernel
theorem d_X2_overIn_85 : decode cX2_overIn 85 = .ok (.i2l, 1) := by decide +kernel
theorem d_X2_overIn_86 : decode cX2_overIn 86 = .ok (.iload_n 2, 1) := by decide +kernel
theorem d_X2_overIn_87 : decode cX2_overIn 87 = .ok (.iconst 0, 1) := by decide +kernel
theorem d_X2_overIn_88 : decode cX2_overIn 88 = .ok (.invokevirtual 109, 3) := by decide +kernel
theorem d_X2_overIn_91 : decode cX2_overIn 91 = .ok (.aload 7, 2) := by decide +kernel
theorem d_X2_overIn_93 : decode cX2_overIn 93 = .ok (.iload_n 2, 1) := by decide +kernel
theorem d_X2_overIn_94 : decode cX2_overIn 94 = .ok (.invokevirtual 113, 3) := by decide +kernel
theorem d_X2_overIn_97 : decode cX2_overIn 97 = .ok (.ladd, 1) := by decide +kernel
theorem d_X2_overIn_98 : decode cX2_overIn 98 = .ok (.lsub, 1) := by decide +kernel
theorem d_X2_overIn_99 : decode cX2_overIn 99 = .ok (.lstore 4, 2) := by decide +kernel
theorem d_X2_overIn_101 : decode cX2_overIn 101 = .ok (.iinc 6 1, 3) := by decide +kernel
theorem d_X2_overIn_104 : decode cX2_overIn 104 = .ok (.goto (-66), 3) := by decide +kernel
theorem d_X2_overIn_107 : decode cX2_overIn 107 = .ok (.lload 4, 2) := by decide +kernel
theorem d_X2_overIn_109 : decode cX2_overIn 109 = .ok (.lreturn, 1) := by decide +kernel
def f_X2_overIn_17 (S : Mem) : Option (Int64 × Mem) := (some (0, S))
set_option maxRecDepth 20000 in
theorem t_X2_overIn_17 {X : MC} {Γ : GG} (C : CX X Γ cX2_overIn 8 "TickPools$Market" 2 63) (hr : X.2.2.2.2.2.2.2.2.1.sig.returnType = some .long) {q : Int64 × Mem} (S : Mem) (hf : f_X2_overIn_17 S = some q) : ZZ X Γ 8 (QQ X Γ (some (aJ q.1)) q.2) S 17 [] [] := by
  unfold f_X2_overIn_17 at hf
  refine z_lconst (v := 0) C d_X2_overIn_17 (by decide) ?_
  exact r_l C hr d_X2_overIn_18 hf
def f_X2_overIn_101 (k38 : Nat → Int32 → Int32 → Nat → Int64 → Int32 → Mem → Option (Int64 × Mem)) (v0 : Nat) (v1 : Int32) (v2 : Int32) (v3 : Nat) (v4 : Int64) (v6 : Int32) (S : Mem) : Option (Int64 × Mem) := (k38 v0 v1 v2 v3 v4 (v6 + 1) S)
set_option maxRecDepth 20000 in
theorem t_X2_overIn_101 {X : MC} {Γ : GG} (C : CX X Γ cX2_overIn 8 "TickPools$Market" 2 63) (hr : X.2.2.2.2.2.2.2.2.1.sig.returnType = some .long) {k38 : Nat → Int32 → Int32 → Nat → Int64 → Int32 → Mem → Option (Int64 × Mem)} {q : Int64 × Mem} (hk38 : ∀ (v0 : Nat) (v1 : Int32) (v2 : Int32) (v3 : Nat) (v4 : Int64) (v6 : Int32) (S : Mem), k38 v0 v1 v2 v3 v4 v6 S = some q → ZZ X Γ 8 (QQ X Γ (some (aJ q.1)) q.2) S 38 [(0, aR v0), (1, aI v1), (2, aI v2), (3, aR v3), (4, aJ v4), (6, aI v6)] []) (v0 : Nat) (v1 : Int32) (v2 : Int32) (v3 : Nat) (v4 : Int64) (v6 : Int32) (S : Mem) (hf : f_X2_overIn_101 k38 v0 v1 v2 v3 v4 v6 S = some q) : ZZ X Γ 8 (QQ X Γ (some (aJ q.1)) q.2) S 101 [(0, aR v0), (1, aI v1), (2, aI v2), (3, aR v3), (4, aJ v4), (6, aI v6)] [] := by
  unfold f_X2_overIn_101 at hf
  refine z_iinc (j := 5) (v := (v6 + 1)) (lv' := [(6, aI (v6 + 1)), (0, aR v0), (1, aI v1), (2, aI v2), (3, aR v3), (4, aJ v4)]) C d_X2_overIn_101 rfl rfl (by decide) rfl ?_
  refine z_goto (tgt := 38) C d_X2_overIn_104 (by decide) ?_
  exact z_sub [1, 2, 3, 4, 5, 0] rfl (hk38 _ _ _ _ _ _ _ hf)
def f_X2_overIn_66 (k38 : Nat → Int32 → Int32 → Nat → Int64 → Int32 → Mem → Option (Int64 × Mem)) (v0 : Nat) (v1 : Int32) (v2 : Int32) (v3 : Nat) (v4 : Int64) (v6 : Int32) (v7 : Nat) (S : Mem) : Option (Int64 × Mem) := (if kd v7 = (6, 8) then (if (gI S v7 1) = v1 then ((f_X7_liesIn v7 v3 (((gI S v7 5) : Int32).toInt64) v2 0 S).bind fun q88 => ((f_X7_owed v7 v2 q88.2).bind fun q94 => (f_X2_overIn_101 k38 v0 v1 v2 v3 (v4 - (q88.1 + q94.1)) v6 q94.2))) else (f_X2_overIn_101 k38 v0 v1 v2 v3 v4 v6 S)) else none)
set_option maxRecDepth 20000 in
theorem t_X2_overIn_66 {X : MC} {Γ : GG} (C : CX X Γ cX2_overIn 8 "TickPools$Market" 2 63) (hr : X.2.2.2.2.2.2.2.2.1.sig.returnType = some .long) {k38 : Nat → Int32 → Int32 → Nat → Int64 → Int32 → Mem → Option (Int64 × Mem)} {q : Int64 × Mem} (hk38 : ∀ (v0 : Nat) (v1 : Int32) (v2 : Int32) (v3 : Nat) (v4 : Int64) (v6 : Int32) (S : Mem), k38 v0 v1 v2 v3 v4 v6 S = some q → ZZ X Γ 8 (QQ X Γ (some (aJ q.1)) q.2) S 38 [(0, aR v0), (1, aI v1), (2, aI v2), (3, aR v3), (4, aJ v4), (6, aI v6)] []) (v0 : Nat) (v1 : Int32) (v2 : Int32) (v3 : Nat) (v4 : Int64) (v6 : Int32) (v7 : Nat) (S : Mem) (hf : f_X2_overIn_66 k38 v0 v1 v2 v3 v4 v6 v7 S = some q) : ZZ X Γ 8 (QQ X Γ (some (aJ q.1)) q.2) S 66 [(0, aR v0), (1, aI v1), (2, aI v2), (3, aR v3), (4, aJ v4), (6, aI v6), (7, aR v7)] [] := by
  unfold f_X2_overIn_66 at hf
  refine z_aload (j := 6) C d_X2_overIn_66 rfl ?_
  obtain ⟨hg68_0, hf⟩ := gd hf
  refine zg_X7_pool C hg68_0 tw_153 d_X2_overIn_68 ?_
  refine z_iload_n (j := 1) C d_X2_overIn_71 rfl ?_
  refine z_icmp_ne (tgt := 101) C d_X2_overIn_72 (by decide) hf (fun c72 hf => ?_) (fun c72 hf => ?_)
  · exact z_sub [0, 1, 2, 3, 4, 5] rfl (t_X2_overIn_101 C hr hk38 _ _ _ _ _ _ _ hf)
  · refine z_lload (j := 4) C d_X2_overIn_75 rfl ?_
    refine z_aload (j := 6) C d_X2_overIn_77 rfl ?_
    refine z_aload_n (j := 3) C d_X2_overIn_79 rfl ?_
    refine z_aload (j := 6) C d_X2_overIn_80 rfl ?_
    refine zg_X7_liquidity C hg68_0 tw_166 d_X2_overIn_82 ?_
    refine z_i2l C d_X2_overIn_85 ?_
    refine z_iload_n (j := 2) C d_X2_overIn_86 rfl ?_
    refine z_iconst (v := 0) C d_X2_overIn_87 (by decide) ?_
    obtain ⟨q88, hF, hf⟩ := bd hf
    refine z_callV1 (rest := [aJ v4]) C [aR v3, aJ (((gI S v7 5) : Int32).toInt64), aI v2, aI 0] hg68_0 (by decide) rfl rfl k_X7_liesIn tw_915 ⟨by decide, by decide⟩ (Nat.le_of_ble_eq_true rfl) d_X2_overIn_88 (c_X7_liesIn C.inj hF) rfl ?_
    refine z_aload (j := 6) C d_X2_overIn_91 rfl ?_
    refine z_iload_n (j := 2) C d_X2_overIn_93 rfl ?_
    obtain ⟨q94, hF, hf⟩ := bd hf
    refine z_callV1 (rest := [aJ q88.1, aJ v4]) C [aI v2] hg68_0 (by decide) rfl rfl k_X7_owed tw_1027 ⟨by decide, by decide⟩ (Nat.le_of_ble_eq_true rfl) d_X2_overIn_94 (c_X7_owed C.inj hF) rfl ?_
    refine z_ladd C d_X2_overIn_97 ?_
    refine z_lsub C d_X2_overIn_98 ?_
    refine z_lstore (lv' := [(4, aJ (v4 - (q88.1 + q94.1))), (0, aR v0), (1, aI v1), (2, aI v2), (3, aR v3), (6, aI v6), (7, aR v7)]) C d_X2_overIn_99 (by decide) rfl ?_
    exact z_sub [1, 2, 3, 4, 0, 5] rfl (t_X2_overIn_101 C hr hk38 _ _ _ _ _ _ _ hf)
def f_X2_overIn_107 (v4 : Int64) (S : Mem) : Option (Int64 × Mem) := (some (v4, S))
set_option maxRecDepth 20000 in
theorem t_X2_overIn_107 {X : MC} {Γ : GG} (C : CX X Γ cX2_overIn 8 "TickPools$Market" 2 63) (hr : X.2.2.2.2.2.2.2.2.1.sig.returnType = some .long) {q : Int64 × Mem} (v4 : Int64) (S : Mem) (hf : f_X2_overIn_107 v4 S = some q) : ZZ X Γ 8 (QQ X Γ (some (aJ q.1)) q.2) S 107 [(4, aJ v4)] [] := by
  unfold f_X2_overIn_107 at hf
  refine z_lload (j := 0) C d_X2_overIn_107 rfl ?_
  exact r_l C hr d_X2_overIn_109 hf
def f_X2_overIn_38B (k38 : Nat → Int32 → Int32 → Nat → Int64 → Int32 → Mem → Option (Int64 × Mem)) (v0 : Nat) (v1 : Int32) (v2 : Int32) (v3 : Nat) (v4 : Int64) (v6 : Int32) (S : Mem) : Option (Int64 × Mem) := (if kd v0 = (1, 9) then (if (gI S v0 3) ≤ v6 then (f_X2_overIn_107  v4 S) else (if 12 ≤ v6 then (f_X2_overIn_107  v4 S) else (if inb v6 12 = true then (f_X2_overIn_66 k38 v0 v1 v2 v3 v4 v6 (gR S (v0 + 3) ((v6 : Int32).toNatClampNeg)) S) else none))) else none)
set_option maxRecDepth 20000 in
theorem t_X2_overIn_38B {X : MC} {Γ : GG} (C : CX X Γ cX2_overIn 8 "TickPools$Market" 2 63) (hr : X.2.2.2.2.2.2.2.2.1.sig.returnType = some .long) {k38 : Nat → Int32 → Int32 → Nat → Int64 → Int32 → Mem → Option (Int64 × Mem)} {q : Int64 × Mem} (hk38 : ∀ (v0 : Nat) (v1 : Int32) (v2 : Int32) (v3 : Nat) (v4 : Int64) (v6 : Int32) (S : Mem), k38 v0 v1 v2 v3 v4 v6 S = some q → ZZ X Γ 8 (QQ X Γ (some (aJ q.1)) q.2) S 38 [(0, aR v0), (1, aI v1), (2, aI v2), (3, aR v3), (4, aJ v4), (6, aI v6)] []) (v0 : Nat) (v1 : Int32) (v2 : Int32) (v3 : Nat) (v4 : Int64) (v6 : Int32) (S : Mem) (hf : f_X2_overIn_38B k38 v0 v1 v2 v3 v4 v6 S = some q) : ZZ X Γ 8 (QQ X Γ (some (aJ q.1)) q.2) S 38 [(0, aR v0), (1, aI v1), (2, aI v2), (3, aR v3), (4, aJ v4), (6, aI v6)] [] := by
  unfold f_X2_overIn_38B at hf
  refine z_iload (j := 5) C d_X2_overIn_38 rfl ?_
  refine z_aload_n (j := 0) C d_X2_overIn_40 rfl ?_
  obtain ⟨hg41_0, hf⟩ := gd hf
  refine zg_X2_stakes C hg41_0 tw_200 d_X2_overIn_41 ?_
  refine z_icmp_ge (tgt := 107) C d_X2_overIn_44 (by decide) hf (fun c44 hf => ?_) (fun c44 hf => ?_)
  · exact z_sub [4] rfl (t_X2_overIn_107 C hr  _ _ hf)
  · refine z_iload (j := 5) C d_X2_overIn_47 rfl ?_
    refine z_aload_n (j := 0) C d_X2_overIn_49 rfl ?_
    refine zg_X2_stakeRow C hg41_0 tw_210 d_X2_overIn_50 ?_
    refine z_alen (v := 12) C (kdM3 hg41_0) (by decide) (by decide) d_X2_overIn_53 ?_
    refine z_icmp_ge (tgt := 107) C d_X2_overIn_54 (by decide) hf (fun c54 hf => ?_) (fun c54 hf => ?_)
    · exact z_sub [4] rfl (t_X2_overIn_107 C hr  _ _ hf)
    · refine z_aload_n (j := 0) C d_X2_overIn_57 rfl ?_
      refine zg_X2_stakeRow C hg41_0 tw_210 d_X2_overIn_58 ?_
      refine z_iload (j := 5) C d_X2_overIn_61 rfl ?_
      obtain ⟨hi63_0, hf⟩ := gd hf
      refine z_aldS C (kdM3 hg41_0) hi63_0 d_X2_overIn_63 ?_
      refine z_astore (lv' := [(7, aR (gR S (v0 + 3) ((v6 : Int32).toNatClampNeg))), (0, aR v0), (1, aI v1), (2, aI v2), (3, aR v3), (4, aJ v4), (6, aI v6)]) C d_X2_overIn_64 (by decide) rfl ?_
      exact z_sub [1, 2, 3, 4, 5, 6, 0] rfl (t_X2_overIn_66 C hr hk38 _ _ _ _ _ _ _ _ hf)
def f_X2_overIn_38 : Nat → Nat → Int32 → Int32 → Nat → Int64 → Int32 → Mem → Option (Int64 × Mem)
  | 0 => fun _ _ _ _ _ _ _ => none
  | n + 1 => f_X2_overIn_38B (f_X2_overIn_38 n)
theorem t_X2_overIn_38 {X : MC} {Γ : GG} (C : CX X Γ cX2_overIn 8 "TickPools$Market" 2 63) (hr : X.2.2.2.2.2.2.2.2.1.sig.returnType = some .long) {q : Int64 × Mem} : ∀ (n : Nat) (v0 : Nat) (v1 : Int32) (v2 : Int32) (v3 : Nat) (v4 : Int64) (v6 : Int32) (S : Mem) (hf : f_X2_overIn_38 n v0 v1 v2 v3 v4 v6 S = some q), ZZ X Γ 8 (QQ X Γ (some (aJ q.1)) q.2) S 38 [(0, aR v0), (1, aI v1), (2, aI v2), (3, aR v3), (4, aJ v4), (6, aI v6)] []
  | 0, _, _, _, _, _, _, _, hf => nomatch (show (none : Option (Int64 × Mem)) = some q from hf)
  | n + 1, v0, v1, v2, v3, v4, v6, S, hf => t_X2_overIn_38B C hr (t_X2_overIn_38 C hr n) v0 v1 v2 v3 v4 v6 S hf
def f_X2_overIn_35 (v0 : Nat) (v1 : Int32) (v2 : Int32) (v3 : Nat) (v4 : Int64) (S : Mem) : Option (Int64 × Mem) := (f_X2_overIn_38  100000 v0 v1 v2 v3 v4 0 S)
set_option maxRecDepth 20000 in
theorem t_X2_overIn_35 {X : MC} {Γ : GG} (C : CX X Γ cX2_overIn 8 "TickPools$Market" 2 63) (hr : X.2.2.2.2.2.2.2.2.1.sig.returnType = some .long) {q : Int64 × Mem} (v0 : Nat) (v1 : Int32) (v2 : Int32) (v3 : Nat) (v4 : Int64) (S : Mem) (hf : f_X2_overIn_35 v0 v1 v2 v3 v4 S = some q) : ZZ X Γ 8 (QQ X Γ (some (aJ q.1)) q.2) S 35 [(0, aR v0), (1, aI v1), (2, aI v2), (3, aR v3), (4, aJ v4)] [] := by
  unfold f_X2_overIn_35 at hf
  refine z_iconst (v := 0) C d_X2_overIn_35 (by decide) ?_
  refine z_istore (lv' := [(6, aI 0), (0, aR v0), (1, aI v1), (2, aI v2), (3, aR v3), (4, aJ v4)]) C d_X2_overIn_36 (by decide) rfl ?_
  exact z_sub [1, 2, 3, 4, 5, 0] rfl (t_X2_overIn_38 C hr  100000 _ _ _ _ _ _ _ hf)
/-- TickPools$Market.overIn(II)J -/
def f_X2_overIn (h0 : Nat) (p1 : Int32) (p2 : Int32) (S : Mem) : Option (Int64 × Mem) := (if kd h0 = (1, 9) then ((f_X2_poolAt h0 p1 S).bind fun q2 => (if q2.1 = 0 then (f_X2_overIn_17  q2.2) else ((f_X11_isSide p2 q2.2).bind fun q11 => (if q11.1 = 0 then (f_X2_overIn_17  q11.2) else (if kd q2.1 = (3, 12) then (if inb p2 2 = true then (if inb p2 2 = true then (f_X2_overIn_35  h0 p1 p2 q2.1 ((((gI q11.2 (q2.1 + 1) ((p2 : Int32).toNatClampNeg)) - (gI q11.2 (q2.1 + 2) ((p2 : Int32).toNatClampNeg))) : Int32).toInt64) q11.2) else none) else none) else none))))) else none)
set_option maxRecDepth 20000 in
theorem c_X2_overIn {l : Launch} {Γ : GG} (hI : Inj Γ) {h0 : Nat} {p1 : Int32} {p2 : Int32} {S : Mem} {q : Int64 × Mem} (hf : f_X2_overIn h0 p1 p2 S = some q) : MM l Γ yX2_overIn cX2_overIn 8 (some .long) 2 63 [aR h0, aI p1, aI p2] S (some (aJ q.1)) q.2 := by
  refine met_of hI "TickPools$Market" rfl (by decide +kernel) (Nat.le_of_ble_eq_true rfl) (fun X hX C hr => ?_)
  unfold f_X2_overIn at hf
  show ZZ X Γ 8 _ S 0 [(0, aR h0), (1, aI p1), (2, aI p2)] []
  refine z_aload_n (j := 0) C d_X2_overIn_0 rfl ?_
  refine z_iload_n (j := 1) C d_X2_overIn_1 rfl ?_
  obtain ⟨hg2_0, hf⟩ := gd hf
  obtain ⟨q2, hF, hf⟩ := bd hf
  refine z_callV1 (rest := []) C [aI p1] hg2_0 (by decide) rfl rfl k_X2_poolAt tw_810 ⟨by decide, by decide⟩ (Nat.le_of_ble_eq_true rfl) d_X2_overIn_2 (c_X2_poolAt C.inj hF) rfl ?_
  refine z_astore_n (lv' := [(3, aR q2.1), (0, aR h0), (1, aI p1), (2, aI p2)]) C d_X2_overIn_5 (by decide) rfl ?_
  refine z_aload_n (j := 0) C d_X2_overIn_6 rfl ?_
  refine z_ifnull (tgt := 17) C d_X2_overIn_7 (by decide) hf (fun c7 hf => ?_) (fun c7 hf => ?_)
  · exact z_sub [] rfl (t_X2_overIn_17 C hr  _ hf)
  · refine z_iload_n (j := 3) C d_X2_overIn_10 rfl ?_
    obtain ⟨q11, hF, hf⟩ := bd hf
    refine z_callSN1 (rest := []) C [aI p2] k_X11_isSide (nw_2) ⟨by decide, by decide⟩ (Nat.le_of_ble_eq_true rfl) d_X2_overIn_11 (c_X11_isSide C.inj hF) rfl ?_
    refine z_if_ne (tgt := 19) C d_X2_overIn_14 (by decide) hf (fun c14 hf => ?_) (fun c14 hf => ?_)
    · refine z_aload_n (j := 0) C d_X2_overIn_19 rfl ?_
      obtain ⟨hg20_1, hf⟩ := gd hf
      refine zg_X4_held C hg20_1 tw_108 d_X2_overIn_20 ?_
      refine z_iload_n (j := 3) C d_X2_overIn_23 rfl ?_
      obtain ⟨hi24_1, hf⟩ := gd hf
      refine z_iald C (kdP1 hg20_1) hi24_1 d_X2_overIn_24 ?_
      refine z_aload_n (j := 0) C d_X2_overIn_25 rfl ?_
      refine zg_X4_house C hg20_1 tw_112 d_X2_overIn_26 ?_
      refine z_iload_n (j := 3) C d_X2_overIn_29 rfl ?_
      obtain ⟨hi30_2, hf⟩ := gd hf
      refine z_iald C (kdP2 hg20_1) hi30_2 d_X2_overIn_30 ?_
      refine z_isub C d_X2_overIn_31 ?_
      refine z_i2l C d_X2_overIn_32 ?_
      refine z_lstore (lv' := [(4, aJ ((((gI q11.2 (q2.1 + 1) ((p2 : Int32).toNatClampNeg)) - (gI q11.2 (q2.1 + 2) ((p2 : Int32).toNatClampNeg))) : Int32).toInt64)), (3, aR q2.1), (0, aR h0), (1, aI p1), (2, aI p2)]) C d_X2_overIn_33 (by decide) rfl ?_
      exact z_sub [2, 3, 4, 1, 0] rfl (t_X2_overIn_35 C hr  _ _ _ _ _ _ hf)
    · exact z_sub [] rfl (t_X2_overIn_17 C hr  _ hf)
theorem d_X7_isOf_0 : decode cX7_isOf 0 = .ok (.aload_n 0, 1) := by decide +kernel
theorem d_X7_isOf_1 : decode cX7_isOf 1 = .ok (.getfield 16, 3) := by decide +kernel
theorem d_X7_isOf_4 : decode cX7_isOf 4 = .ok (.iload_n 1, 1) := by decide +kernel
theorem d_X7_isOf_5 : decode cX7_isOf 5 = .ok (.if_icmp .ne 41, 3) := by decide +kernel
theorem d_X7_isOf_8 : decode cX7_isOf 8 = .ok (.aload_n 0, 1) := by decide +kernel
theorem d_X7_isOf_9 : decode cX7_isOf 9 = .ok (.getfield 20, 3) := by decide +kernel
theorem d_X7_isOf_12 : decode cX7_isOf 12 = .ok (.iload_n 2, 1) := by decide +kernel
theorem d_X7_isOf_13 : decode cX7_isOf 13 = .ok (.if_icmp .ne 33, 3) := by decide +kernel
theorem d_X7_isOf_16 : decode cX7_isOf 16 = .ok (.aload_n 0, 1) := by decide +kernel
theorem d_X7_isOf_17 : decode cX7_isOf 17 = .ok (.getfield 23, 3) := by decide +kernel
theorem d_X7_isOf_20 : decode cX7_isOf 20 = .ok (.iload_n 3, 1) := by decide +kernel
theorem d_X7_isOf_21 : decode cX7_isOf 21 = .ok (.if_icmp .ne 25, 3) := by decide +kernel
theorem d_X7_isOf_24 : decode cX7_isOf 24 = .ok (.aload_n 0, 1) := by decide +kernel
theorem d_X7_isOf_25 : decode cX7_isOf 25 = .ok (.getfield 26, 3) := by decide +kernel
theorem d_X7_isOf_28 : decode cX7_isOf 28 = .ok (.iload 4, 2) := by decide +kernel
theorem d_X7_isOf_30 : decode cX7_isOf 30 = .ok (.if_icmp .ne 16, 3) := by decide +kernel
theorem d_X7_isOf_33 : decode cX7_isOf 33 = .ok (.aload_n 0, 1) := by decide +kernel
theorem d_X7_isOf_34 : decode cX7_isOf 34 = .ok (.getfield 29, 3) := by decide +kernel
theorem d_X7_isOf_37 : decode cX7_isOf 37 = .ok (.iload 5, 2) := by decide +kernel
theorem d_X7_isOf_39 : decode cX7_isOf 39 = .ok (.if_icmp .ne 7, 3) := by decide +kernel
theorem d_X7_isOf_42 : decode cX7_isOf 42 = .ok (.iconst 1, 1) := by decide +kernel
theorem d_X7_isOf_43 : decode cX7_isOf 43 = .ok (.goto 4, 3) := by decide +kernel
theorem d_X7_isOf_46 : decode cX7_isOf 46 = .ok (.iconst 0, 1) := by decide +kernel
theorem d_X7_isOf_47 : decode cX7_isOf 47 = .ok (.ireturn, 1) := by decide +kernel
def f_X7_isOf_47 (s0 : Int32) (S : Mem) : Option (Int32 × Mem) := (if isB s0 = true then (some (s0, S)) else none)
set_option maxRecDepth 20000 in
theorem t_X7_isOf_47 {X : MC} {Γ : GG} (C : CX X Γ cX7_isOf 6 "TickPools$Stake" 0 0) (hr : X.2.2.2.2.2.2.2.2.1.sig.returnType = some .boolean) {q : Int32 × Mem} (s0 : Int32) (S : Mem) (hf : f_X7_isOf_47 s0 S = some q) : ZZ X Γ 6 (QQ X Γ (some (aI q.1)) q.2) S 47 [] [aI s0] := by
  unfold f_X7_isOf_47 at hf
  obtain ⟨hb47_0, hf⟩ := gd hf
  exact r_i C hr (isB_nar hb47_0).1 d_X7_isOf_47 hf
def f_X7_isOf_46 (S : Mem) : Option (Int32 × Mem) := (f_X7_isOf_47  0 S)
set_option maxRecDepth 20000 in
theorem t_X7_isOf_46 {X : MC} {Γ : GG} (C : CX X Γ cX7_isOf 6 "TickPools$Stake" 0 0) (hr : X.2.2.2.2.2.2.2.2.1.sig.returnType = some .boolean) {q : Int32 × Mem} (S : Mem) (hf : f_X7_isOf_46 S = some q) : ZZ X Γ 6 (QQ X Γ (some (aI q.1)) q.2) S 46 [] [] := by
  unfold f_X7_isOf_46 at hf
  refine z_iconst (v := 0) C d_X7_isOf_46 (by decide) ?_
  exact z_sub [] rfl (t_X7_isOf_47 C hr  _ _ hf)
/-- TickPools$Stake.isOf(IIIII)Z -/
def f_X7_isOf (h0 : Nat) (p1 : Int32) (p2 : Int32) (p3 : Int32) (p4 : Int32) (p5 : Int32) (S : Mem) : Option (Int32 × Mem) := (if kd h0 = (6, 8) then (if (gI S h0 0) = p1 then (if (gI S h0 1) = p2 then (if (gI S h0 2) = p3 then (if (gI S h0 3) = p4 then (if (gI S h0 4) = p5 then (f_X7_isOf_47  1 S) else (f_X7_isOf_46  S)) else (f_X7_isOf_46  S)) else (f_X7_isOf_46  S)) else (f_X7_isOf_46  S)) else (f_X7_isOf_46  S)) else none)
set_option maxRecDepth 20000 in
theorem c_X7_isOf {l : Launch} {Γ : GG} (hI : Inj Γ) {h0 : Nat} {p1 : Int32} {p2 : Int32} {p3 : Int32} {p4 : Int32} {p5 : Int32} {S : Mem} {q : Int32 × Mem} (hf : f_X7_isOf h0 p1 p2 p3 p4 p5 S = some q) : MM l Γ yX7_isOf cX7_isOf 6 (some .boolean) 0 0 [aR h0, aI p1, aI p2, aI p3, aI p4, aI p5] S (some (aI q.1)) q.2 := by
  refine met_of hI "TickPools$Stake" rfl (by decide +kernel) (Nat.le_of_ble_eq_true rfl) (fun X hX C hr => ?_)
  unfold f_X7_isOf at hf
  show ZZ X Γ 6 _ S 0 [(0, aR h0), (1, aI p1), (2, aI p2), (3, aI p3), (4, aI p4), (5, aI p5)] []
  refine z_aload_n (j := 0) C d_X7_isOf_0 rfl ?_
  obtain ⟨hg1_0, hf⟩ := gd hf
  refine zg_X7_person C hg1_0 tw_148 d_X7_isOf_1 ?_
  refine z_iload_n (j := 1) C d_X7_isOf_4 rfl ?_
  refine z_icmp_ne (tgt := 46) C d_X7_isOf_5 (by decide) hf (fun c5 hf => ?_) (fun c5 hf => ?_)
  · exact z_sub [] rfl (t_X7_isOf_46 C hr  _ hf)
  · refine z_aload_n (j := 0) C d_X7_isOf_8 rfl ?_
    refine zg_X7_pool C hg1_0 tw_151 d_X7_isOf_9 ?_
    refine z_iload_n (j := 2) C d_X7_isOf_12 rfl ?_
    refine z_icmp_ne (tgt := 46) C d_X7_isOf_13 (by decide) hf (fun c13 hf => ?_) (fun c13 hf => ?_)
    · exact z_sub [] rfl (t_X7_isOf_46 C hr  _ hf)
    · refine z_aload_n (j := 0) C d_X7_isOf_16 rfl ?_
      refine zg_X7_low C hg1_0 tw_154 d_X7_isOf_17 ?_
      refine z_iload_n (j := 3) C d_X7_isOf_20 rfl ?_
      refine z_icmp_ne (tgt := 46) C d_X7_isOf_21 (by decide) hf (fun c21 hf => ?_) (fun c21 hf => ?_)
      · exact z_sub [] rfl (t_X7_isOf_46 C hr  _ hf)
      · refine z_aload_n (j := 0) C d_X7_isOf_24 rfl ?_
        refine zg_X7_high C hg1_0 tw_157 d_X7_isOf_25 ?_
        refine z_iload (j := 4) C d_X7_isOf_28 rfl ?_
        refine z_icmp_ne (tgt := 46) C d_X7_isOf_30 (by decide) hf (fun c30 hf => ?_) (fun c30 hf => ?_)
        · exact z_sub [] rfl (t_X7_isOf_46 C hr  _ hf)
        · refine z_aload_n (j := 0) C d_X7_isOf_33 rfl ?_
          refine zg_X7_auto C hg1_0 tw_160 d_X7_isOf_34 ?_
          refine z_iload (j := 5) C d_X7_isOf_37 rfl ?_
          refine z_icmp_ne (tgt := 46) C d_X7_isOf_39 (by decide) hf (fun c39 hf => ?_) (fun c39 hf => ?_)
          · exact z_sub [] rfl (t_X7_isOf_46 C hr  _ hf)
          · refine z_iconst (v := 1) C d_X7_isOf_42 (by decide) ?_
            refine z_goto (tgt := 47) C d_X7_isOf_43 (by decide) ?_
            exact z_sub [] rfl (t_X7_isOf_47 C hr  _ _ hf)
theorem d_X2_findStake_0 : decode cX2_findStake 0 = .ok (.iconst 0, 1) := by decide +kernel
theorem d_X2_findStake_1 : decode cX2_findStake 1 = .ok (.istore 6, 2) := by decide +kernel
theorem d_X2_findStake_3 : decode cX2_findStake 3 = .ok (.iload 6, 2) := by decide +kernel
theorem d_X2_findStake_5 : decode cX2_findStake 5 = .ok (.aload_n 0, 1) := by decide +kernel
theorem d_X2_findStake_6 : decode cX2_findStake 6 = .ok (.getfield 39, 3) := by decide +kernel
theorem d_X2_findStake_9 : decode cX2_findStake 9 = .ok (.if_icmp .ge 42, 3) := by decide +kernel
theorem d_X2_findStake_12 : decode cX2_findStake 12 = .ok (.iload 6, 2) := by decide +kernel
theorem d_X2_findStake_14 : decode cX2_findStake 14 = .ok (.aload_n 0, 1) := by decide +kernel
theorem d_X2_findStake_15 : decode cX2_findStake 15 = .ok (.getfield 24, 3) := by decide +kernel
theorem d_X2_findStake_18 : decode cX2_findStake 18 = .ok (.arraylength, 1) := by decide +kernel
theorem d_X2_findStake_19 : decode cX2_findStake 19 = .ok (.if_icmp .ge 32, 3) := by decide +kernel
theorem d_X2_findStake_22 : decode cX2_findStake 22 = .ok (.aload_n 0, 1) := by decide +kernel
theorem d_X2_findStake_23 : decode cX2_findStake 23 = .ok (.getfield 24, 3) := by decide +kernel
theorem d_X2_findStake_26 : decode cX2_findStake 26 = .ok (.iload 6, 2) := by decide +kernel
theorem d_X2_findStake_28 : decode cX2_findStake 28 = .ok (.aaload, 1) := by decide +kernel
theorem d_X2_findStake_29 : decode cX2_findStake 29 = .ok (.iload_n 1, 1) := by decide +kernel
theorem d_X2_findStake_30 : decode cX2_findStake 30 = .ok (.iload_n 2, 1) := by decide +kernel
theorem d_X2_findStake_31 : decode cX2_findStake 31 = .ok (.iload_n 3, 1) := by decide +kernel
theorem d_X2_findStake_32 : decode cX2_findStake 32 = .ok (.iload 4, 2) := by decide +kernel
theorem d_X2_findStake_34 : decode cX2_findStake 34 = .ok (.iload 5, 2) := by decide +kernel
theorem d_X2_findStake_36 : decode cX2_findStake 36 = .ok (.invokevirtual 117, 3) := by decide +kernel
theorem d_X2_findStake_39 : decode cX2_findStake 39 = .ok (.ifCond .eq 6, 3) := by decide +kernel
theorem d_X2_findStake_42 : decode cX2_findStake 42 = .ok (.iload 6, 2) := by decide +kernel
theorem d_X2_findStake_44 : decode cX2_findStake 44 = .ok (.ireturn, 1) := by decide +kernel
theorem d_X2_findStake_45 : decode cX2_findStake 45 = .ok (.iinc 6 1, 3) := by decide +kernel
theorem d_X2_findStake_48 : decode cX2_findStake 48 = .ok (.goto (-45), 3) := by decide +kernel
theorem d_X2_findStake_51 : decode cX2_findStake 51 = .ok (.iconst (-1), 1) := by decide +kernel
theorem d_X2_findStake_52 : decode cX2_findStake 52 = .ok (.ireturn, 1) := by decide +kernel
def f_X2_findStake_51 (S : Mem) : Option (Int32 × Mem) := (some ((-1), S))
set_option maxRecDepth 20000 in
theorem t_X2_findStake_51 {X : MC} {Γ : GG} (C : CX X Γ cX2_findStake 7 "TickPools$Market" 1 25) (hr : X.2.2.2.2.2.2.2.2.1.sig.returnType = some .int) {q : Int32 × Mem} (S : Mem) (hf : f_X2_findStake_51 S = some q) : ZZ X Γ 7 (QQ X Γ (some (aI q.1)) q.2) S 51 [] [] := by
  unfold f_X2_findStake_51 at hf
  refine z_iconst (v := (-1)) C d_X2_findStake_51 (by decide) ?_
  exact r_i C hr rfl d_X2_findStake_52 hf
def f_X2_findStake_3B (k3 : Nat → Int32 → Int32 → Int32 → Int32 → Int32 → Int32 → Mem → Option (Int32 × Mem)) (v0 : Nat) (v1 : Int32) (v2 : Int32) (v3 : Int32) (v4 : Int32) (v5 : Int32) (v6 : Int32) (S : Mem) : Option (Int32 × Mem) := (if kd v0 = (1, 9) then (if (gI S v0 3) ≤ v6 then (f_X2_findStake_51  S) else (if 12 ≤ v6 then (f_X2_findStake_51  S) else (if inb v6 12 = true then (if kd (gR S (v0 + 3) ((v6 : Int32).toNatClampNeg)) = (6, 8) then ((f_X7_isOf (gR S (v0 + 3) ((v6 : Int32).toNatClampNeg)) v1 v2 v3 v4 v5 S).bind fun q36 => (if q36.1 = 0 then (k3 v0 v1 v2 v3 v4 v5 (v6 + 1) q36.2) else (some (v6, q36.2)))) else none) else none))) else none)
set_option maxRecDepth 20000 in
theorem t_X2_findStake_3B {X : MC} {Γ : GG} (C : CX X Γ cX2_findStake 7 "TickPools$Market" 1 25) (hr : X.2.2.2.2.2.2.2.2.1.sig.returnType = some .int) {k3 : Nat → Int32 → Int32 → Int32 → Int32 → Int32 → Int32 → Mem → Option (Int32 × Mem)} {q : Int32 × Mem} (hk3 : ∀ (v0 : Nat) (v1 : Int32) (v2 : Int32) (v3 : Int32) (v4 : Int32) (v5 : Int32) (v6 : Int32) (S : Mem), k3 v0 v1 v2 v3 v4 v5 v6 S = some q → ZZ X Γ 7 (QQ X Γ (some (aI q.1)) q.2) S 3 [(0, aR v0), (1, aI v1), (2, aI v2), (3, aI v3), (4, aI v4), (5, aI v5), (6, aI v6)] []) (v0 : Nat) (v1 : Int32) (v2 : Int32) (v3 : Int32) (v4 : Int32) (v5 : Int32) (v6 : Int32) (S : Mem) (hf : f_X2_findStake_3B k3 v0 v1 v2 v3 v4 v5 v6 S = some q) : ZZ X Γ 7 (QQ X Γ (some (aI q.1)) q.2) S 3 [(0, aR v0), (1, aI v1), (2, aI v2), (3, aI v3), (4, aI v4), (5, aI v5), (6, aI v6)] [] := by
  unfold f_X2_findStake_3B at hf
  refine z_iload (j := 6) C d_X2_findStake_3 rfl ?_
  refine z_aload_n (j := 0) C d_X2_findStake_5 rfl ?_
  obtain ⟨hg6_0, hf⟩ := gd hf
  refine zg_X2_stakes C hg6_0 tw_200 d_X2_findStake_6 ?_
  refine z_icmp_ge (tgt := 51) C d_X2_findStake_9 (by decide) hf (fun c9 hf => ?_) (fun c9 hf => ?_)
  · exact z_sub [] rfl (t_X2_findStake_51 C hr  _ hf)
  · refine z_iload (j := 6) C d_X2_findStake_12 rfl ?_
    refine z_aload_n (j := 0) C d_X2_findStake_14 rfl ?_
    refine zg_X2_stakeRow C hg6_0 tw_210 d_X2_findStake_15 ?_
    refine z_alen (v := 12) C (kdM3 hg6_0) (by decide) (by decide) d_X2_findStake_18 ?_
    refine z_icmp_ge (tgt := 51) C d_X2_findStake_19 (by decide) hf (fun c19 hf => ?_) (fun c19 hf => ?_)
    · exact z_sub [] rfl (t_X2_findStake_51 C hr  _ hf)
    · refine z_aload_n (j := 0) C d_X2_findStake_22 rfl ?_
      refine zg_X2_stakeRow C hg6_0 tw_210 d_X2_findStake_23 ?_
      refine z_iload (j := 6) C d_X2_findStake_26 rfl ?_
      obtain ⟨hi28_0, hf⟩ := gd hf
      refine z_aldS C (kdM3 hg6_0) hi28_0 d_X2_findStake_28 ?_
      refine z_iload_n (j := 1) C d_X2_findStake_29 rfl ?_
      refine z_iload_n (j := 2) C d_X2_findStake_30 rfl ?_
      refine z_iload_n (j := 3) C d_X2_findStake_31 rfl ?_
      refine z_iload (j := 4) C d_X2_findStake_32 rfl ?_
      refine z_iload (j := 5) C d_X2_findStake_34 rfl ?_
      obtain ⟨hg36_1, hf⟩ := gd hf
      obtain ⟨q36, hF, hf⟩ := bd hf
      refine z_callV1 (rest := []) C [aI v1, aI v2, aI v3, aI v4, aI v5] hg36_1 (by decide) rfl rfl k_X7_isOf tw_970 ⟨by decide, by decide⟩ (Nat.le_of_ble_eq_true rfl) d_X2_findStake_36 (c_X7_isOf C.inj hF) rfl ?_
      refine z_if_eq (tgt := 45) C d_X2_findStake_39 (by decide) hf (fun c39 hf => ?_) (fun c39 hf => ?_)
      · refine z_iinc (j := 6) (v := (v6 + 1)) (lv' := [(6, aI (v6 + 1)), (0, aR v0), (1, aI v1), (2, aI v2), (3, aI v3), (4, aI v4), (5, aI v5)]) C d_X2_findStake_45 rfl rfl (by decide) rfl ?_
        refine z_goto (tgt := 3) C d_X2_findStake_48 (by decide) ?_
        exact z_sub [1, 2, 3, 4, 5, 6, 0] rfl (hk3 _ _ _ _ _ _ _ _ hf)
      · refine z_iload (j := 6) C d_X2_findStake_42 rfl ?_
        exact r_i C hr rfl d_X2_findStake_44 hf
def f_X2_findStake_3 : Nat → Nat → Int32 → Int32 → Int32 → Int32 → Int32 → Int32 → Mem → Option (Int32 × Mem)
  | 0 => fun _ _ _ _ _ _ _ _ => none
  | n + 1 => f_X2_findStake_3B (f_X2_findStake_3 n)
theorem t_X2_findStake_3 {X : MC} {Γ : GG} (C : CX X Γ cX2_findStake 7 "TickPools$Market" 1 25) (hr : X.2.2.2.2.2.2.2.2.1.sig.returnType = some .int) {q : Int32 × Mem} : ∀ (n : Nat) (v0 : Nat) (v1 : Int32) (v2 : Int32) (v3 : Int32) (v4 : Int32) (v5 : Int32) (v6 : Int32) (S : Mem) (hf : f_X2_findStake_3 n v0 v1 v2 v3 v4 v5 v6 S = some q), ZZ X Γ 7 (QQ X Γ (some (aI q.1)) q.2) S 3 [(0, aR v0), (1, aI v1), (2, aI v2), (3, aI v3), (4, aI v4), (5, aI v5), (6, aI v6)] []
  | 0, _, _, _, _, _, _, _, _, hf => nomatch (show (none : Option (Int32 × Mem)) = some q from hf)
  | n + 1, v0, v1, v2, v3, v4, v5, v6, S, hf => t_X2_findStake_3B C hr (t_X2_findStake_3 C hr n) v0 v1 v2 v3 v4 v5 v6 S hf
/-- TickPools$Market.findStake(IIIII)I -/
def f_X2_findStake (h0 : Nat) (p1 : Int32) (p2 : Int32) (p3 : Int32) (p4 : Int32) (p5 : Int32) (S : Mem) : Option (Int32 × Mem) := (f_X2_findStake_3  100000 h0 p1 p2 p3 p4 p5 0 S)
set_option maxRecDepth 20000 in
theorem c_X2_findStake {l : Launch} {Γ : GG} (hI : Inj Γ) {h0 : Nat} {p1 : Int32} {p2 : Int32} {p3 : Int32} {p4 : Int32} {p5 : Int32} {S : Mem} {q : Int32 × Mem} (hf : f_X2_findStake h0 p1 p2 p3 p4 p5 S = some q) : MM l Γ yX2_findStake cX2_findStake 7 (some .int) 1 25 [aR h0, aI p1, aI p2, aI p3, aI p4, aI p5] S (some (aI q.1)) q.2 := by
  refine met_of hI "TickPools$Market" rfl (by decide +kernel) (Nat.le_of_ble_eq_true rfl) (fun X hX C hr => ?_)
  unfold f_X2_findStake at hf
  show ZZ X Γ 7 _ S 0 [(0, aR h0), (1, aI p1), (2, aI p2), (3, aI p3), (4, aI p4), (5, aI p5)] []
  refine z_iconst (v := 0) C d_X2_findStake_0 (by decide) ?_
  refine z_istore (lv' := [(6, aI 0), (0, aR h0), (1, aI p1), (2, aI p2), (3, aI p3), (4, aI p4), (5, aI p5)]) C d_X2_findStake_1 (by decide) rfl ?_
  exact z_sub [1, 2, 3, 4, 5, 6, 0] rfl (t_X2_findStake_3 C hr  100000 _ _ _ _ _ _ _ _ hf)
theorem d_X11_isTick_0 : decode cX11_isTick 0 = .ok (.iload_n 0, 1) := by decide +kernel
theorem d_X11_isTick_1 : decode cX11_isTick 1 = .ok (.ifCond .lt 13, 3) := by decide +kernel
theorem d_X11_isTick_4 : decode cX11_isTick 4 = .ok (.iload_n 0, 1) := by decide +kernel
theorem d_X11_isTick_5 : decode cX11_isTick 5 = .ok (.bipush 40, 2) := by decide +kernel
theorem d_X11_isTick_7 : decode cX11_isTick 7 = .ok (.if_icmp .gt 7, 3) := by decide +kernel
theorem d_X11_isTick_10 : decode cX11_isTick 10 = .ok (.iconst 1, 1) := by decide +kernel
theorem d_X11_isTick_11 : decode cX11_isTick 11 = .ok (.goto 4, 3) := by decide +kernel
theorem d_X11_isTick_14 : decode cX11_isTick 14 = .ok (.iconst 0, 1) := by decide +kernel
theorem d_X11_isTick_15 : decode cX11_isTick 15 = .ok (.ireturn, 1) := by decide +kernel
def f_X11_isTick_15 (s0 : Int32) (S : Mem) : Option (Int32 × Mem) := (if isB s0 = true then (some (s0, S)) else none)
set_option maxRecDepth 20000 in
theorem t_X11_isTick_15 {X : MC} {Γ : GG} (C : CX X Γ cX11_isTick 1 "TickPools" 0 0) (hr : X.2.2.2.2.2.2.2.2.1.sig.returnType = some .boolean) {q : Int32 × Mem} (s0 : Int32) (S : Mem) (hf : f_X11_isTick_15 s0 S = some q) : ZZ X Γ 1 (QQ X Γ (some (aI q.1)) q.2) S 15 [] [aI s0] := by
  unfold f_X11_isTick_15 at hf
  obtain ⟨hb15_0, hf⟩ := gd hf
  exact r_i C hr (isB_nar hb15_0).1 d_X11_isTick_15 hf
def f_X11_isTick_14 (S : Mem) : Option (Int32 × Mem) := (f_X11_isTick_15  0 S)
set_option maxRecDepth 20000 in
theorem t_X11_isTick_14 {X : MC} {Γ : GG} (C : CX X Γ cX11_isTick 1 "TickPools" 0 0) (hr : X.2.2.2.2.2.2.2.2.1.sig.returnType = some .boolean) {q : Int32 × Mem} (S : Mem) (hf : f_X11_isTick_14 S = some q) : ZZ X Γ 1 (QQ X Γ (some (aI q.1)) q.2) S 14 [] [] := by
  unfold f_X11_isTick_14 at hf
  refine z_iconst (v := 0) C d_X11_isTick_14 (by decide) ?_
  exact z_sub [] rfl (t_X11_isTick_15 C hr  _ _ hf)
/-- TickPools.isTick(I)Z -/
def f_X11_isTick (p0 : Int32) (S : Mem) : Option (Int32 × Mem) := (if p0 < 0 then (f_X11_isTick_14  S) else (if 40 < p0 then (f_X11_isTick_14  S) else (f_X11_isTick_15  1 S)))
set_option maxRecDepth 20000 in
theorem c_X11_isTick {l : Launch} {Γ : GG} (hI : Inj Γ) {p0 : Int32} {S : Mem} {q : Int32 × Mem} (hf : f_X11_isTick p0 S = some q) : MM l Γ yX11_isTick cX11_isTick 1 (some .boolean) 0 0 [aI p0] S (some (aI q.1)) q.2 := by
  refine met_of hI "TickPools" rfl (by decide +kernel) (Nat.le_of_ble_eq_true rfl) (fun X hX C hr => ?_)
  unfold f_X11_isTick at hf
  show ZZ X Γ 1 _ S 0 [(0, aI p0)] []
  refine z_iload_n (j := 0) C d_X11_isTick_0 rfl ?_
  refine z_if_lt (tgt := 14) C d_X11_isTick_1 (by decide) hf (fun c1 hf => ?_) (fun c1 hf => ?_)
  · exact z_sub [] rfl (t_X11_isTick_14 C hr  _ hf)
  · refine z_iload_n (j := 0) C d_X11_isTick_4 rfl ?_
    refine z_bipush (v := 40) C d_X11_isTick_5 (by decide) ?_
    refine z_icmp_gt (tgt := 14) C d_X11_isTick_7 (by decide) hf (fun c7 hf => ?_) (fun c7 hf => ?_)
    · exact z_sub [] rfl (t_X11_isTick_14 C hr  _ hf)
    · refine z_iconst (v := 1) C d_X11_isTick_10 (by decide) ?_
      refine z_goto (tgt := 15) C d_X11_isTick_11 (by decide) ?_
      exact z_sub [] rfl (t_X11_isTick_15 C hr  _ _ hf)
theorem d_X2_isRange_0 : decode cX2_isRange 0 = .ok (.aload_n 0, 1) := by decide +kernel
theorem d_X2_isRange_1 : decode cX2_isRange 1 = .ok (.getfield 151, 3) := by decide +kernel
theorem d_X2_isRange_4 : decode cX2_isRange 4 = .ok (.ifCond .le 44, 3) := by decide +kernel
theorem d_X2_isRange_7 : decode cX2_isRange 7 = .ok (.iload_n 1, 1) := by decide +kernel
theorem d_X2_isRange_8 : decode cX2_isRange 8 = .ok (.invokestatic 154, 3) := by decide +kernel
theorem d_X2_isRange_11 : decode cX2_isRange 11 = .ok (.ifCond .eq 37, 3) := by decide +kernel
theorem d_X2_isRange_14 : decode cX2_isRange 14 = .ok (.iload_n 2, 1) := by decide +kernel
theorem d_X2_isRange_15 : decode cX2_isRange 15 = .ok (.invokestatic 154, 3) := by decide +kernel
theorem d_X2_isRange_18 : decode cX2_isRange 18 = .ok (.ifCond .eq 30, 3) := by decide +kernel
theorem d_X2_isRange_21 : decode cX2_isRange 21 = .ok (.iload_n 1, 1) := by decide +kernel
theorem d_X2_isRange_22 : decode cX2_isRange 22 = .ok (.iload_n 2, 1) := by decide +kernel
theorem d_X2_isRange_23 : decode cX2_isRange 23 = .ok (.if_icmp .ge 25, 3) := by decide +kernel
theorem d_X2_isRange_26 : decode cX2_isRange 26 = .ok (.iload_n 1, 1) := by decide +kernel
theorem d_X2_isRange_27 : decode cX2_isRange 27 = .ok (.aload_n 0, 1) := by decide +kernel
theorem d_X2_isRange_28 : decode cX2_isRange 28 = .ok (.getfield 151, 3) := by decide +kernel
theorem d_X2_isRange_31 : decode cX2_isRange 31 = .ok (.irem, 1) := by decide +kernel
theorem d_X2_isRange_32 : decode cX2_isRange 32 = .ok (.ifCond .ne 16, 3) := by decide +kernel
theorem d_X2_isRange_35 : decode cX2_isRange 35 = .ok (.iload_n 2, 1) := by decide +kernel
theorem d_X2_isRange_36 : decode cX2_isRange 36 = .ok (.aload_n 0, 1) := by decide +kernel
theorem d_X2_isRange_37 : decode cX2_isRange 37 = .ok (.getfield 151, 3) := by decide +kernel
theorem d_X2_isRange_40 : decode cX2_isRange 40 = .ok (.irem, 1) := by decide +kernel
theorem d_X2_isRange_41 : decode cX2_isRange 41 = .ok (.ifCond .ne 7, 3) := by decide +kernel
theorem d_X2_isRange_44 : decode cX2_isRange 44 = .ok (.iconst 1, 1) := by decide +kernel
theorem d_X2_isRange_45 : decode cX2_isRange 45 = .ok (.goto 4, 3) := by decide +kernel
theorem d_X2_isRange_48 : decode cX2_isRange 48 = .ok (.iconst 0, 1) := by decide +kernel
theorem d_X2_isRange_49 : decode cX2_isRange 49 = .ok (.ireturn, 1) := by decide +kernel
def f_X2_isRange_49 (s0 : Int32) (S : Mem) : Option (Int32 × Mem) := (if isB s0 = true then (some (s0, S)) else none)
set_option maxRecDepth 20000 in
theorem t_X2_isRange_49 {X : MC} {Γ : GG} (C : CX X Γ cX2_isRange 3 "TickPools$Market" 1 20) (hr : X.2.2.2.2.2.2.2.2.1.sig.returnType = some .boolean) {q : Int32 × Mem} (s0 : Int32) (S : Mem) (hf : f_X2_isRange_49 s0 S = some q) : ZZ X Γ 3 (QQ X Γ (some (aI q.1)) q.2) S 49 [] [aI s0] := by
  unfold f_X2_isRange_49 at hf
  obtain ⟨hb49_0, hf⟩ := gd hf
  exact r_i C hr (isB_nar hb49_0).1 d_X2_isRange_49 hf
def f_X2_isRange_48 (S : Mem) : Option (Int32 × Mem) := (f_X2_isRange_49  0 S)
set_option maxRecDepth 20000 in
theorem t_X2_isRange_48 {X : MC} {Γ : GG} (C : CX X Γ cX2_isRange 3 "TickPools$Market" 1 20) (hr : X.2.2.2.2.2.2.2.2.1.sig.returnType = some .boolean) {q : Int32 × Mem} (S : Mem) (hf : f_X2_isRange_48 S = some q) : ZZ X Γ 3 (QQ X Γ (some (aI q.1)) q.2) S 48 [] [] := by
  unfold f_X2_isRange_48 at hf
  refine z_iconst (v := 0) C d_X2_isRange_48 (by decide) ?_
  exact z_sub [] rfl (t_X2_isRange_49 C hr  _ _ hf)
/-- TickPools$Market.isRange(LTickPools$Pool;II)Z -/
def f_X2_isRange (p0 : Nat) (p1 : Int32) (p2 : Int32) (S : Mem) : Option (Int32 × Mem) := (if kd p0 = (3, 12) then (if (gI S p0 4) ≤ 0 then (f_X2_isRange_48  S) else ((f_X11_isTick p1 S).bind fun q8 => (if q8.1 = 0 then (f_X2_isRange_48  q8.2) else ((f_X11_isTick p2 q8.2).bind fun q15 => (if q15.1 = 0 then (f_X2_isRange_48  q15.2) else (if p2 ≤ p1 then (f_X2_isRange_48  q15.2) else (if (gI q15.2 p0 4) = 0 then none else (if (p1 % (gI q15.2 p0 4)) = 0 then (if (gI q15.2 p0 4) = 0 then none else (if (p2 % (gI q15.2 p0 4)) = 0 then (f_X2_isRange_49  1 q15.2) else (f_X2_isRange_48  q15.2))) else (f_X2_isRange_48  q15.2))))))))) else none)
set_option maxRecDepth 20000 in
theorem c_X2_isRange {l : Launch} {Γ : GG} (hI : Inj Γ) {p0 : Nat} {p1 : Int32} {p2 : Int32} {S : Mem} {q : Int32 × Mem} (hf : f_X2_isRange p0 p1 p2 S = some q) : MM l Γ yX2_isRange cX2_isRange 3 (some .boolean) 1 20 [aR p0, aI p1, aI p2] S (some (aI q.1)) q.2 := by
  refine met_of hI "TickPools$Market" rfl (by decide +kernel) (Nat.le_of_ble_eq_true rfl) (fun X hX C hr => ?_)
  unfold f_X2_isRange at hf
  show ZZ X Γ 3 _ S 0 [(0, aR p0), (1, aI p1), (2, aI p2)] []
  refine z_aload_n (j := 0) C d_X2_isRange_0 rfl ?_
  obtain ⟨hg1_0, hf⟩ := gd hf
  refine zg_X4_spacing C hg1_0 tw_94 d_X2_isRange_1 ?_
  refine z_if_le (tgt := 48) C d_X2_isRange_4 (by decide) hf (fun c4 hf => ?_) (fun c4 hf => ?_)
  · exact z_sub [] rfl (t_X2_isRange_48 C hr  _ hf)
  · refine z_iload_n (j := 1) C d_X2_isRange_7 rfl ?_
    obtain ⟨q8, hF, hf⟩ := bd hf
    refine z_callSN1 (rest := []) C [aI p1] k_X11_isTick (nw_7) ⟨by decide, by decide⟩ (Nat.le_of_ble_eq_true rfl) d_X2_isRange_8 (c_X11_isTick C.inj hF) rfl ?_
    refine z_if_eq (tgt := 48) C d_X2_isRange_11 (by decide) hf (fun c11 hf => ?_) (fun c11 hf => ?_)
    · exact z_sub [] rfl (t_X2_isRange_48 C hr  _ hf)
    · refine z_iload_n (j := 2) C d_X2_isRange_14 rfl ?_
      obtain ⟨q15, hF, hf⟩ := bd hf
      refine z_callSN1 (rest := []) C [aI p2] k_X11_isTick (nw_7) ⟨by decide, by decide⟩ (Nat.le_of_ble_eq_true rfl) d_X2_isRange_15 (c_X11_isTick C.inj hF) rfl ?_
      refine z_if_eq (tgt := 48) C d_X2_isRange_18 (by decide) hf (fun c18 hf => ?_) (fun c18 hf => ?_)
      · exact z_sub [] rfl (t_X2_isRange_48 C hr  _ hf)
      · refine z_iload_n (j := 1) C d_X2_isRange_21 rfl ?_
        refine z_iload_n (j := 2) C d_X2_isRange_22 rfl ?_
        refine z_icmp_ge (tgt := 48) C d_X2_isRange_23 (by decide) hf (fun c23 hf => ?_) (fun c23 hf => ?_)
        · exact z_sub [] rfl (t_X2_isRange_48 C hr  _ hf)
        · refine z_iload_n (j := 1) C d_X2_isRange_26 rfl ?_
          refine z_aload_n (j := 0) C d_X2_isRange_27 rfl ?_
          refine zg_X4_spacing C hg1_0 tw_94 d_X2_isRange_28 ?_
          obtain ⟨hz31, hf⟩ := gdn hf
          refine z_irem C d_X2_isRange_31 hz31 ?_
          refine z_if_ne (tgt := 48) C d_X2_isRange_32 (by decide) hf (fun c32 hf => ?_) (fun c32 hf => ?_)
          · exact z_sub [] rfl (t_X2_isRange_48 C hr  _ hf)
          · refine z_iload_n (j := 2) C d_X2_isRange_35 rfl ?_
            refine z_aload_n (j := 0) C d_X2_isRange_36 rfl ?_
            refine zg_X4_spacing C hg1_0 tw_94 d_X2_isRange_37 ?_
            obtain ⟨hz40, hf⟩ := gdn hf
            refine z_irem C d_X2_isRange_40 hz40 ?_
            refine z_if_ne (tgt := 48) C d_X2_isRange_41 (by decide) hf (fun c41 hf => ?_) (fun c41 hf => ?_)
            · exact z_sub [] rfl (t_X2_isRange_48 C hr  _ hf)
            · refine z_iconst (v := 1) C d_X2_isRange_44 (by decide) ?_
              refine z_goto (tgt := 49) C d_X2_isRange_45 (by decide) ?_
              exact z_sub [] rfl (t_X2_isRange_49 C hr  _ _ hf)
theorem d_X2_addStake_0 : decode cX2_addStake 0 = .ok (.aload_n 0, 1) := by decide +kernel
theorem d_X2_addStake_1 : decode cX2_addStake 1 = .ok (.iload_n 2, 1) := by decide +kernel
theorem d_X2_addStake_2 : decode cX2_addStake 2 = .ok (.invokevirtual 102, 3) := by decide +kernel
theorem d_X2_addStake_5 : decode cX2_addStake 5 = .ok (.astore 7, 2) := by decide +kernel
theorem d_X2_addStake_7 : decode cX2_addStake 7 = .ok (.aload 7, 2) := by decide +kernel
theorem d_X2_addStake_9 : decode cX2_addStake 9 = .ok (.ifnull 46, 3) := by decide +kernel
theorem d_X2_addStake_12 : decode cX2_addStake 12 = .ok (.aload_n 0, 1) := by decide +kernel
theorem d_X2_addStake_13 : decode cX2_addStake 13 = .ok (.iload_n 1, 1) := by decide +kernel
theorem d_X2_addStake_14 : decode cX2_addStake 14 = .ok (.invokevirtual 121, 3) := by decide +kernel
theorem d_X2_addStake_17 : decode cX2_addStake 17 = .ok (.ifCond .eq 38, 3) := by decide +kernel
theorem d_X2_addStake_20 : decode cX2_addStake 20 = .ok (.iload 5, 2) := by decide +kernel
theorem d_X2_addStake_22 : decode cX2_addStake 22 = .ok (.ifCond .lt 33, 3) := by decide +kernel
theorem d_X2_addStake_25 : decode cX2_addStake 25 = .ok (.iload 5, 2) := by decide +kernel
theorem d_X2_addStake_27 : decode cX2_addStake 27 = .ok (.iconst 2, 1) := by decide +kernel
theorem d_X2_addStake_28 : decode cX2_addStake 28 = .ok (.if_icmp .gt 27, 3) := by decide +kernel
theorem d_X2_addStake_31 : decode cX2_addStake 31 = .ok (.aload 7, 2) := by decide +kernel
theorem d_X2_addStake_33 : decode cX2_addStake 33 = .ok (.iload_n 3, 1) := by decide +kernel
theorem d_X2_addStake_34 : decode cX2_addStake 34 = .ok (.iload 4, 2) := by decide +kernel
theorem d_X2_addStake_36 : decode cX2_addStake 36 = .ok (.invokestatic 124, 3) := by decide +kernel
theorem d_X2_addStake_39 : decode cX2_addStake 39 = .ok (.ifCond .eq 16, 3) := by decide +kernel
theorem d_X2_addStake_42 : decode cX2_addStake 42 = .ok (.iload 6, 2) := by decide +kernel
theorem d_X2_addStake_44 : decode cX2_addStake 44 = .ok (.iconst 1, 1) := by decide +kernel
theorem d_X2_addStake_45 : decode cX2_addStake 45 = .ok (.if_icmp .lt 10, 3) := by decide +kernel
theorem d_X2_addStake_48 : decode cX2_addStake 48 = .ok (.iload 6, 2) := by decide +kernel
theorem d_X2_addStake_50 : decode cX2_addStake 50 = .ok (.ldc 128, 2) := by decide +kernel
theorem d_X2_addStake_52 : decode cX2_addStake 52 = .ok (.if_icmp .le 5, 3) := by decide +kernel
theorem d_X2_addStake_55 : decode cX2_addStake 55 = .ok (.iconst (-1), 1) := by decide +kernel
theorem d_X2_addStake_56 : decode cX2_addStake 56 = .ok (.ireturn, 1) := by decide +kernel
theorem d_X2_addStake_57 : decode cX2_addStake 57 = .ok (.aload_n 0, 1) := by decide +kernel
theorem d_X2_addStake_58 : decode cX2_addStake 58 = .ok (.iload_n 1, 1) := by decide +kernel
theorem d_X2_addStake_59 : decode cX2_addStake 59 = .ok (.iload_n 2, 1) := by decide +kernel
theorem d_X2_addStake_60 : decode cX2_addStake 60 = .ok (.iload_n 3, 1) := by decide +kernel
theorem d_X2_addStake_61 : decode cX2_addStake 61 = .ok (.iload 4, 2) := by decide +kernel
theorem d_X2_addStake_63 : decode cX2_addStake 63 = .ok (.iload 5, 2) := by decide +kernel
theorem d_X2_addStake_65 : decode cX2_addStake 65 = .ok (.invokevirtual 129, 3) := by decide +kernel
theorem d_X2_addStake_68 : decode cX2_addStake 68 = .ok (.istore 8, 2) := by decide +kernel
theorem d_X2_addStake_70 : decode cX2_addStake 70 = .ok (.iload 8, 2) := by decide +kernel
theorem d_X2_addStake_72 : decode cX2_addStake 72 = .ok (.iconst (-1), 1) := by decide +kernel
theorem d_X2_addStake_73 : decode cX2_addStake 73 = .ok (.if_icmp .ne 10, 3) := by decide +kernel
theorem d_X2_addStake_76 : decode cX2_addStake 76 = .ok (.aload_n 0, 1) := by decide +kernel
theorem d_X2_addStake_77 : decode cX2_addStake 77 = .ok (.getfield 39, 3) := by decide +kernel
theorem d_X2_addStake_80 : decode cX2_addStake 80 = .ok (.goto 5, 3) := by decide +kernel
theorem d_X2_addStake_83 : decode cX2_addStake 83 = .ok (.iload 8, 2) := by decide +kernel
theorem d_X2_addStake_85 : decode cX2_addStake 85 = .ok (.istore 9, 2) := by decide +kernel
theorem d_X2_addStake_87 : decode cX2_addStake 87 = .ok (.iload 9, 2) := by decide +kernel
theorem d_X2_addStake_89 : decode cX2_addStake 89 = .ok (.ifCond .lt 13, 3) := by decide +kernel
theorem d_X2_addStake_92 : decode cX2_addStake 92 = .ok (.iload 9, 2) := by decide +kernel
theorem d_X2_addStake_94 : decode cX2_addStake 94 = .ok (.aload_n 0, 1) := by decide +kernel
theorem d_X2_addStake_95 : decode cX2_addStake 95 = .ok (.getfield 24, 3) := by decide +kernel
theorem d_X2_addStake_98 : decode cX2_addStake 98 = .ok (.arraylength, 1) := by decide +kernel
theorem d_X2_addStake_99 : decode cX2_addStake 99 = .ok (.if_icmp .lt 5, 3) := by decide +kernel
theorem d_X2_addStake_102 : decode cX2_addStake 102 = .ok (.iconst (-1), 1) := by decide +kernel
theorem d_X2_addStake_103 : decode cX2_addStake 103 = .ok (.ireturn, 1) := by decide +kernel
theorem d_X2_addStake_104 : decode cX2_addStake 104 = .ok (.aload_n 0, 1) := by decide +kernel
theorem d_X2_addStake_105 : decode cX2_addStake 105 = .ok (.getfield 24, 3) := by decide +kernel
theorem d_X2_addStake_108 : decode cX2_addStake 108 = .ok (.iload 9, 2) := by decide +kernel
theorem d_X2_addStake_110 : decode cX2_addStake 110 = .ok (.aaload, 1) := by decide +kernel
theorem d_X2_addStake_111 : decode cX2_addStake 111 = .ok (.astore 10, 2) := by decide +kernel
theorem d_X2_addStake_113 : decode cX2_addStake 113 = .ok (.iload 8, 2) := by decide +kernel
theorem d_X2_addStake_115 : decode cX2_addStake 115 = .ok (.iconst (-1), 1) := by decide +kernel
theorem d_X2_addStake_116 : decode cX2_addStake 116 = .ok (.if_icmp .ne 15, 3) := by decide +kernel
theorem d_X2_addStake_119 : decode cX2_addStake 119 = .ok (.aload 10, 2) := by decide +kernel
theorem d_X2_addStake_121 : decode cX2_addStake 121 = .ok (.iload_n 1, 1) := by decide +kernel
theorem d_X2_addStake_122 : decode cX2_addStake 122 = .ok (.iload_n 2, 1) := by decide +kernel
theorem d_X2_addStake_123 : decode cX2_addStake 123 = .ok (.iload_n 3, 1) := by decide +kernel
theorem d_X2_addStake_124 : decode cX2_addStake 124 = .ok (.iload 4, 2) := by decide +kernel
theorem d_X2_addStake_126 : decode cX2_addStake 126 = .ok (.iload 5, 2) := by decide +kernel
theorem d_X2_addStake_128 : decode cX2_addStake 128 = .ok (.invokevirtual 133, 3) := by decide +kernel
theorem d_X2_addStake_131 : decode cX2_addStake 131 = .ok (.aload 10, 2) := by decide +kernel
theorem d_X2_addStake_133 : decode cX2_addStake 133 = .ok (.aload 7, 2) := by decide +kernel
theorem d_X2_addStake_135 : decode cX2_addStake 135 = .ok (.iload 6, 2) := by decide +kernel
theorem d_X2_addStake_137 : decode cX2_addStake 137 = .ok (.i2l, 1) := by decide +kernel
theorem d_X2_addStake_138 : decode cX2_addStake 138 = .ok (.iconst 0, 1) := by decide +kernel
theorem d_X2_addStake_139 : decode cX2_addStake 139 = .ok (.iconst 1, 1) := by decide +kernel
theorem d_X2_addStake_140 : decode cX2_addStake 140 = .ok (.invokevirtual 109, 3) := by decide +kernel
theorem d_X2_addStake_143 : decode cX2_addStake 143 = .ok (.lstore 11, 2) := by decide +kernel
theorem d_X2_addStake_145 : decode cX2_addStake 145 = .ok (.aload 10, 2) := by decide +kernel
theorem d_X2_addStake_147 : decode cX2_addStake 147 = .ok (.aload 7, 2) := by decide +kernel
theorem d_X2_addStake_149 : decode cX2_addStake 149 = .ok (.iload 6, 2) := by decide +kernel
theorem d_X2_addStake_151 : decode cX2_addStake 151 = .ok (.i2l, 1) := by decide +kernel
theorem d_X2_addStake_152 : decode cX2_addStake 152 = .ok (.iconst 1, 1) := by decide +kernel
theorem d_X2_addStake_153 : decode cX2_addStake 153 = .ok (.iconst 1, 1) := by decide +kernel
theorem d_X2_addStake_154 : decode cX2_addStake 154 = .ok (.invokevirtual 109, 3) := by decide +kernel
theorem d_X2_addStake_157 : decode cX2_addStake 157 = .ok (.lstore 13, 2) := by decide +kernel
theorem d_X2_addStake_159 : decode cX2_addStake 159 = .ok (.aload 10, 2) := by decide +kernel
theorem d_X2_addStake_161 : decode cX2_addStake 161 = .ok (.getfield 95, 3) := by decide +kernel
theorem d_X2_addStake_164 : decode cX2_addStake 164 = .ok (.iload 6, 2) := by decide +kernel
theorem d_X2_addStake_166 : decode cX2_addStake 166 = .ok (.iadd, 1) := by decide +kernel
theorem d_X2_addStake_167 : decode cX2_addStake 167 = .ok (.ldc 137, 2) := by decide +kernel
theorem d_X2_addStake_169 : decode cX2_addStake 169 = .ok (.if_icmp .gt 37, 3) := by decide +kernel
theorem d_X2_addStake_172 : decode cX2_addStake 172 = .ok (.lload 11, 2) := by decide +kernel
theorem d_X2_addStake_174 : decode cX2_addStake 174 = .ok (.aload_n 0, 1) := by decide +kernel
theorem d_X2_addStake_175 : decode cX2_addStake 175 = .ok (.iload_n 1, 1) := by decide +kernel
theorem d_X2_addStake_176 : decode cX2_addStake 176 = .ok (.aload 7, 2) := by decide +kernel
theorem d_X2_addStake_178 : decode cX2_addStake 178 = .ok (.getfield 138, 3) := by decide +kernel
theorem d_X2_addStake_181 : decode cX2_addStake 181 = .ok (.invokevirtual 76, 3) := by decide +kernel
theorem d_X2_addStake_184 : decode cX2_addStake 184 = .ok (.i2l, 1) := by decide +kernel
theorem d_X2_addStake_185 : decode cX2_addStake 185 = .ok (.lcmp, 1) := by decide +kernel
theorem d_X2_addStake_186 : decode cX2_addStake 186 = .ok (.ifCond .gt 20, 3) := by decide +kernel
theorem d_X2_addStake_189 : decode cX2_addStake 189 = .ok (.lload 13, 2) := by decide +kernel
theorem d_X2_addStake_191 : decode cX2_addStake 191 = .ok (.aload_n 0, 1) := by decide +kernel
theorem d_X2_addStake_192 : decode cX2_addStake 192 = .ok (.iload_n 1, 1) := by decide +kernel
theorem d_X2_addStake_193 : decode cX2_addStake 193 = .ok (.aload 7, 2) := by decide +kernel
theorem d_X2_addStake_195 : decode cX2_addStake 195 = .ok (.getfield 141, 3) := by decide +kernel
theorem d_X2_addStake_198 : decode cX2_addStake 198 = .ok (.invokevirtual 76, 3) := by decide +kernel
theorem d_X2_addStake_201 : decode cX2_addStake 201 = .ok (.i2l, 1) := by decide +kernel
theorem d_X2_addStake_202 : decode cX2_addStake 202 = .ok (.lcmp, 1) := by decide +kernel
theorem d_X2_addStake_203 : decode cX2_addStake 203 = .ok (.ifCond .le 5, 3) := by decide +kernel
theorem d_X2_addStake_206 : decode cX2_addStake 206 = .ok (.iconst (-1), 1) := by decide +kernel
theorem d_X2_addStake_207 : decode cX2_addStake 207 = .ok (.ireturn, 1) := by decide +kernel
theorem d_X2_addStake_208 : decode cX2_addStake 208 = .ok (.aload 10, 2) := by decide +kernel
theorem d_X2_addStake_210 : decode cX2_addStake 210 = .ok (.invokevirtual 144, 3) := by decide +kernel
theorem d_X2_addStake_213 : decode cX2_addStake 213 = .ok (.aload 10, 2) := by decide +kernel
theorem d_X2_addStake_215 : decode cX2_addStake 215 = .ok (.dup, 1) := by decide +kernel
theorem d_X2_addStake_216 : decode cX2_addStake 216 = .ok (.getfield 95, 3) := by decide +kernel
theorem d_X2_addStake_219 : decode cX2_addStake 219 = .ok (.iload 6, 2) := by decide +kernel
theorem d_X2_addStake_221 : decode cX2_addStake 221 = .ok (.iadd, 1) := by decide +kernel
theorem d_X2_addStake_222 : decode cX2_addStake 222 = .ok (.putfield 95, 3) := by decide +kernel
theorem d_X2_addStake_225 : decode cX2_addStake 225 = .ok (.aload_n 0, 1) := by decide +kernel
theorem d_X2_addStake_226 : decode cX2_addStake 226 = .ok (.aload 7, 2) := by decide +kernel
theorem d_X2_addStake_228 : decode cX2_addStake 228 = .ok (.iconst 0, 1) := by decide +kernel
theorem d_X2_addStake_229 : decode cX2_addStake 229 = .ok (.iload_n 1, 1) := by decide +kernel
theorem d_X2_addStake_230 : decode cX2_addStake 230 = .ok (.lload 11, 2) := by decide +kernel
theorem d_X2_addStake_232 : decode cX2_addStake 232 = .ok (.lneg, 1) := by decide +kernel
theorem d_X2_addStake_233 : decode cX2_addStake 233 = .ok (.l2i, 1) := by decide +kernel
theorem d_X2_addStake_234 : decode cX2_addStake 234 = .ok (.invokevirtual 147, 3) := by decide +kernel
theorem d_X2_addStake_237 : decode cX2_addStake 237 = .ok (.aload_n 0, 1) := by decide +kernel
theorem d_X2_addStake_238 : decode cX2_addStake 238 = .ok (.aload 7, 2) := by decide +kernel
theorem d_X2_addStake_240 : decode cX2_addStake 240 = .ok (.iconst 1, 1) := by decide +kernel
theorem d_X2_addStake_241 : decode cX2_addStake 241 = .ok (.iload_n 1, 1) := by decide +kernel
theorem d_X2_addStake_242 : decode cX2_addStake 242 = .ok (.lload 13, 2) := by decide +kernel
theorem d_X2_addStake_244 : decode cX2_addStake 244 = .ok (.lneg, 1) := by decide +kernel
theorem d_X2_addStake_245 : decode cX2_addStake 245 = .ok (.l2i, 1) := by decide +kernel
theorem d_X2_addStake_246 : decode cX2_addStake 246 = .ok (.invokevirtual 147, 3) := by decide +kernel
theorem d_X2_addStake_249 : decode cX2_addStake 249 = .ok (.aload_n 0, 1) := by decide +kernel
theorem d_X2_addStake_250 : decode cX2_addStake 250 = .ok (.iload 8, 2) := by decide +kernel
theorem d_X2_addStake_252 : decode cX2_addStake 252 = .ok (.iconst (-1), 1) := by decide +kernel
theorem d_X2_addStake_253 : decode cX2_addStake 253 = .ok (.if_icmp .ne 12, 3) := by decide +kernel
theorem d_X2_addStake_256 : decode cX2_addStake 256 = .ok (.aload_n 0, 1) := by decide +kernel
theorem d_X2_addStake_257 : decode cX2_addStake 257 = .ok (.getfield 39, 3) := by decide +kernel
theorem d_X2_addStake_260 : decode cX2_addStake 260 = .ok (.iconst 1, 1) := by decide +kernel
theorem d_X2_addStake_261 : decode cX2_addStake 261 = .ok (.iadd, 1) := by decide +kernel
theorem d_X2_addStake_262 : decode cX2_addStake 262 = .ok (.goto 7, 3) := by decide +kernel
theorem d_X2_addStake_265 : decode cX2_addStake 265 = .ok (.aload_n 0, 1) := by decide +kernel
theorem d_X2_addStake_266 : decode cX2_addStake 266 = .ok (.getfield 39, 3) := by decide +kernel
theorem d_X2_addStake_269 : decode cX2_addStake 269 = .ok (.putfield 39, 3) := by decide +kernel
theorem d_X2_addStake_272 : decode cX2_addStake 272 = .ok (.iload 9, 2) := by decide +kernel
theorem d_X2_addStake_274 : decode cX2_addStake 274 = .ok (.ireturn, 1) := by decide +kernel
def f_X2_addStake_55 (S : Mem) : Option (Int32 × Mem) := (some ((-1), S))
set_option maxRecDepth 20000 in
theorem t_X2_addStake_55 {X : MC} {Γ : GG} (C : CX X Γ cX2_addStake 15 "TickPools$Market" 2 63) (hr : X.2.2.2.2.2.2.2.2.1.sig.returnType = some .int) {q : Int32 × Mem} (S : Mem) (hf : f_X2_addStake_55 S = some q) : ZZ X Γ 15 (QQ X Γ (some (aI q.1)) q.2) S 55 [] [] := by
  unfold f_X2_addStake_55 at hf
  refine z_iconst (v := (-1)) C d_X2_addStake_55 (by decide) ?_
  exact r_i C hr rfl d_X2_addStake_56 hf
def f_X2_addStake_102 (S : Mem) : Option (Int32 × Mem) := (some ((-1), S))
set_option maxRecDepth 20000 in
theorem t_X2_addStake_102 {X : MC} {Γ : GG} (C : CX X Γ cX2_addStake 15 "TickPools$Market" 2 63) (hr : X.2.2.2.2.2.2.2.2.1.sig.returnType = some .int) {q : Int32 × Mem} (S : Mem) (hf : f_X2_addStake_102 S = some q) : ZZ X Γ 15 (QQ X Γ (some (aI q.1)) q.2) S 102 [] [] := by
  unfold f_X2_addStake_102 at hf
  refine z_iconst (v := (-1)) C d_X2_addStake_102 (by decide) ?_
  exact r_i C hr rfl d_X2_addStake_103 hf
def f_X2_addStake_206 (S : Mem) : Option (Int32 × Mem) := (some ((-1), S))
set_option maxRecDepth 20000 in
theorem t_X2_addStake_206 {X : MC} {Γ : GG} (C : CX X Γ cX2_addStake 15 "TickPools$Market" 2 63) (hr : X.2.2.2.2.2.2.2.2.1.sig.returnType = some .int) {q : Int32 × Mem} (S : Mem) (hf : f_X2_addStake_206 S = some q) : ZZ X Γ 15 (QQ X Γ (some (aI q.1)) q.2) S 206 [] [] := by
  unfold f_X2_addStake_206 at hf
  refine z_iconst (v := (-1)) C d_X2_addStake_206 (by decide) ?_
  exact r_i C hr rfl d_X2_addStake_207 hf
def f_X2_addStake_269 (v9 : Int32) (s0 : Int32) (s1 : Nat) (S : Mem) : Option (Int32 × Mem) := (if kd s1 = (1, 9) then (some (v9, (sI S s1 3 s0))) else none)
set_option maxRecDepth 20000 in
theorem t_X2_addStake_269 {X : MC} {Γ : GG} (C : CX X Γ cX2_addStake 15 "TickPools$Market" 2 63) (hr : X.2.2.2.2.2.2.2.2.1.sig.returnType = some .int) {q : Int32 × Mem} (v9 : Int32) (s0 : Int32) (s1 : Nat) (S : Mem) (hf : f_X2_addStake_269 v9 s0 s1 S = some q) : ZZ X Γ 15 (QQ X Γ (some (aI q.1)) q.2) S 269 [(9, aI v9)] [aI s0, aR s1] := by
  unfold f_X2_addStake_269 at hf
  obtain ⟨hg269_0, hf⟩ := gd hf
  refine zp_X2_stakes C hg269_0 tw_200 d_X2_addStake_269 ?_
  refine z_iload (j := 0) C d_X2_addStake_272 rfl ?_
  exact r_i C hr rfl d_X2_addStake_274 hf
def f_X2_addStake_131 (v0 : Nat) (v1 : Int32) (v6 : Int32) (v7 : Nat) (v8 : Int32) (v9 : Int32) (v10 : Nat) (S : Mem) : Option (Int32 × Mem) := (if kd v10 = (6, 8) then ((f_X7_liesIn v10 v7 (v6.toInt64) 0 1 S).bind fun q140 => ((f_X7_liesIn v10 v7 (v6.toInt64) 1 1 q140.2).bind fun q154 => (if 999999 < ((gI q154.2 v10 5) + v6) then (f_X2_addStake_206  q154.2) else (if kd v7 = (3, 12) then (if kd v0 = (1, 9) then ((f_X2_purseOf v0 v1 (gI q154.2 v7 0) q154.2).bind fun q181 => (if (q181.1.toInt64) < q140.1 then (f_X2_addStake_206  q181.2) else ((f_X2_purseOf v0 v1 (gI q181.2 v7 1) q181.2).bind fun q198 => (if q154.1 ≤ (q198.1.toInt64) then ((f_X7_settle v10 q198.2).bind fun q210 => ((f_X2_payOut v0 v7 0 v1 (((-q140.1) : Int64).toInt32) (sI q210.2 v10 5 ((gI q210.2 v10 5) + v6))).bind fun q234 => ((f_X2_payOut v0 v7 1 v1 (((-q154.1) : Int64).toInt32) q234.2).bind fun q246 => (if v8 = (-1) then (f_X2_addStake_269  v9 ((gI q246.2 v0 3) + 1) v0 q246.2) else (f_X2_addStake_269  v9 (gI q246.2 v0 3) v0 q246.2))))) else (f_X2_addStake_206  q198.2))))) else none) else none)))) else none)
set_option maxRecDepth 20000 in
theorem t_X2_addStake_131 {X : MC} {Γ : GG} (C : CX X Γ cX2_addStake 15 "TickPools$Market" 2 63) (hr : X.2.2.2.2.2.2.2.2.1.sig.returnType = some .int) {q : Int32 × Mem} (v0 : Nat) (v1 : Int32) (v6 : Int32) (v7 : Nat) (v8 : Int32) (v9 : Int32) (v10 : Nat) (S : Mem) (hf : f_X2_addStake_131 v0 v1 v6 v7 v8 v9 v10 S = some q) : ZZ X Γ 15 (QQ X Γ (some (aI q.1)) q.2) S 131 [(0, aR v0), (1, aI v1), (6, aI v6), (7, aR v7), (8, aI v8), (9, aI v9), (10, aR v10)] [] := by
  unfold f_X2_addStake_131 at hf
  refine z_aload (j := 6) C d_X2_addStake_131 rfl ?_
  refine z_aload (j := 3) C d_X2_addStake_133 rfl ?_
  refine z_iload (j := 2) C d_X2_addStake_135 rfl ?_
  refine z_i2l C d_X2_addStake_137 ?_
  refine z_iconst (v := 0) C d_X2_addStake_138 (by decide) ?_
  refine z_iconst (v := 1) C d_X2_addStake_139 (by decide) ?_
  obtain ⟨hg140_0, hf⟩ := gd hf
  obtain ⟨q140, hF, hf⟩ := bd hf
  refine z_callV1 (rest := []) C [aR v7, aJ (v6.toInt64), aI 0, aI 1] hg140_0 (by decide) rfl rfl k_X7_liesIn tw_915 ⟨by decide, by decide⟩ (Nat.le_of_ble_eq_true rfl) d_X2_addStake_140 (c_X7_liesIn C.inj hF) rfl ?_
  refine z_lstore (lv' := [(11, aJ q140.1), (0, aR v0), (1, aI v1), (6, aI v6), (7, aR v7), (8, aI v8), (9, aI v9), (10, aR v10)]) C d_X2_addStake_143 (by decide) rfl ?_
  refine z_aload (j := 7) C d_X2_addStake_145 rfl ?_
  refine z_aload (j := 4) C d_X2_addStake_147 rfl ?_
  refine z_iload (j := 3) C d_X2_addStake_149 rfl ?_
  refine z_i2l C d_X2_addStake_151 ?_
  refine z_iconst (v := 1) C d_X2_addStake_152 (by decide) ?_
  refine z_iconst (v := 1) C d_X2_addStake_153 (by decide) ?_
  obtain ⟨q154, hF, hf⟩ := bd hf
  refine z_callV1 (rest := []) C [aR v7, aJ (v6.toInt64), aI 1, aI 1] hg140_0 (by decide) rfl rfl k_X7_liesIn tw_915 ⟨by decide, by decide⟩ (Nat.le_of_ble_eq_true rfl) d_X2_addStake_154 (c_X7_liesIn C.inj hF) rfl ?_
  refine z_lstore (lv' := [(13, aJ q154.1), (11, aJ q140.1), (0, aR v0), (1, aI v1), (6, aI v6), (7, aR v7), (8, aI v8), (9, aI v9), (10, aR v10)]) C d_X2_addStake_157 (by decide) rfl ?_
  refine z_aload (j := 8) C d_X2_addStake_159 rfl ?_
  refine zg_X7_liquidity C hg140_0 tw_166 d_X2_addStake_161 ?_
  refine z_iload (j := 4) C d_X2_addStake_164 rfl ?_
  refine z_iadd C d_X2_addStake_166 ?_
  refine z_ldc (v := 999999) C tw_975 d_X2_addStake_167 ?_
  refine z_icmp_gt (tgt := 206) C d_X2_addStake_169 (by decide) hf (fun c169 hf => ?_) (fun c169 hf => ?_)
  · exact z_sub [] rfl (t_X2_addStake_206 C hr  _ hf)
  · refine z_lload (j := 1) C d_X2_addStake_172 rfl ?_
    refine z_aload_n (j := 2) C d_X2_addStake_174 rfl ?_
    refine z_iload_n (j := 3) C d_X2_addStake_175 rfl ?_
    refine z_aload (j := 5) C d_X2_addStake_176 rfl ?_
    obtain ⟨hg178_1, hf⟩ := gd hf
    refine zg_X4_first C hg178_1 tw_77 d_X2_addStake_178 ?_
    obtain ⟨hg181_2, hf⟩ := gd hf
    obtain ⟨q181, hF, hf⟩ := bd hf
    refine z_callV1 (rest := [aJ q140.1]) C [aI v1, aI (gI q154.2 v7 0)] hg181_2 (by decide) rfl rfl k_X2_purseOf tw_976 ⟨by decide, by decide⟩ (Nat.le_of_ble_eq_true rfl) d_X2_addStake_181 (c_X2_purseOf C.inj hF) rfl ?_
    refine z_i2l C d_X2_addStake_184 ?_
    refine z_lgt (tgt := 206) C d_X2_addStake_185 d_X2_addStake_186 (by decide) hf (fun c185 hf => ?_) (fun c185 hf => ?_)
    · exact z_sub [] rfl (t_X2_addStake_206 C hr  _ hf)
    · refine z_lload (j := 0) C d_X2_addStake_189 rfl ?_
      refine z_aload_n (j := 2) C d_X2_addStake_191 rfl ?_
      refine z_iload_n (j := 3) C d_X2_addStake_192 rfl ?_
      refine z_aload (j := 5) C d_X2_addStake_193 rfl ?_
      refine zg_X4_second C hg178_1 tw_81 d_X2_addStake_195 ?_
      obtain ⟨q198, hF, hf⟩ := bd hf
      refine z_callV1 (rest := [aJ q154.1]) C [aI v1, aI (gI q181.2 v7 1)] hg181_2 (by decide) rfl rfl k_X2_purseOf tw_976 ⟨by decide, by decide⟩ (Nat.le_of_ble_eq_true rfl) d_X2_addStake_198 (c_X2_purseOf C.inj hF) rfl ?_
      refine z_i2l C d_X2_addStake_201 ?_
      refine z_lle (tgt := 208) C d_X2_addStake_202 d_X2_addStake_203 (by decide) hf (fun c202 hf => ?_) (fun c202 hf => ?_)
      · refine z_aload (j := 8) C d_X2_addStake_208 rfl ?_
        obtain ⟨q210, hF, hf⟩ := bd hf
        refine z_callV0 (rest := []) C [] hg140_0 (by decide) rfl rfl k_X7_settle tw_906 ⟨by decide, by decide⟩ (Nat.le_of_ble_eq_true rfl) d_X2_addStake_210 (c_X7_settle C.inj hF) rfl ?_
        refine z_aload (j := 8) C d_X2_addStake_213 rfl ?_
        refine z_dup C d_X2_addStake_215 rfl ?_
        refine zg_X7_liquidity C hg140_0 tw_166 d_X2_addStake_216 ?_
        refine z_iload (j := 4) C d_X2_addStake_219 rfl ?_
        refine z_iadd C d_X2_addStake_221 ?_
        refine zp_X7_liquidity C hg140_0 tw_166 d_X2_addStake_222 ?_
        refine z_aload_n (j := 2) C d_X2_addStake_225 rfl ?_
        refine z_aload (j := 5) C d_X2_addStake_226 rfl ?_
        refine z_iconst (v := 0) C d_X2_addStake_228 (by decide) ?_
        refine z_iload_n (j := 3) C d_X2_addStake_229 rfl ?_
        refine z_lload (j := 1) C d_X2_addStake_230 rfl ?_
        refine z_lneg C d_X2_addStake_232 ?_
        refine z_l2i C d_X2_addStake_233 ?_
        obtain ⟨q234, hF, hf⟩ := bd hf
        refine z_callV0 (rest := []) C [aR v7, aI 0, aI v1, aI (((-q140.1) : Int64).toInt32)] hg181_2 (by decide) rfl rfl k_X2_payOut tw_921 ⟨by decide, by decide⟩ (Nat.le_of_ble_eq_true rfl) d_X2_addStake_234 (c_X2_payOut C.inj hF) rfl ?_
        refine z_aload_n (j := 2) C d_X2_addStake_237 rfl ?_
        refine z_aload (j := 5) C d_X2_addStake_238 rfl ?_
        refine z_iconst (v := 1) C d_X2_addStake_240 (by decide) ?_
        refine z_iload_n (j := 3) C d_X2_addStake_241 rfl ?_
        refine z_lload (j := 0) C d_X2_addStake_242 rfl ?_
        refine z_lneg C d_X2_addStake_244 ?_
        refine z_l2i C d_X2_addStake_245 ?_
        obtain ⟨q246, hF, hf⟩ := bd hf
        refine z_callV0 (rest := []) C [aR v7, aI 1, aI v1, aI (((-q154.1) : Int64).toInt32)] hg181_2 (by decide) rfl rfl k_X2_payOut tw_921 ⟨by decide, by decide⟩ (Nat.le_of_ble_eq_true rfl) d_X2_addStake_246 (c_X2_payOut C.inj hF) rfl ?_
        refine z_aload_n (j := 2) C d_X2_addStake_249 rfl ?_
        refine z_iload (j := 6) C d_X2_addStake_250 rfl ?_
        refine z_iconst (v := (-1)) C d_X2_addStake_252 (by decide) ?_
        refine z_icmp_ne (tgt := 265) C d_X2_addStake_253 (by decide) hf (fun c253 hf => ?_) (fun c253 hf => ?_)
        · refine z_aload_n (j := 2) C d_X2_addStake_265 rfl ?_
          refine zg_X2_stakes C hg181_2 tw_200 d_X2_addStake_266 ?_
          exact z_sub [7] rfl (t_X2_addStake_269 C hr  _ _ _ _ hf)
        · refine z_aload_n (j := 2) C d_X2_addStake_256 rfl ?_
          refine zg_X2_stakes C hg181_2 tw_200 d_X2_addStake_257 ?_
          refine z_iconst (v := 1) C d_X2_addStake_260 (by decide) ?_
          refine z_iadd C d_X2_addStake_261 ?_
          refine z_goto (tgt := 269) C d_X2_addStake_262 (by decide) ?_
          exact z_sub [7] rfl (t_X2_addStake_269 C hr  _ _ _ _ hf)
      · exact z_sub [] rfl (t_X2_addStake_206 C hr  _ hf)
def f_X2_addStake_113 (v0 : Nat) (v1 : Int32) (v2 : Int32) (v3 : Int32) (v4 : Int32) (v5 : Int32) (v6 : Int32) (v7 : Nat) (v8 : Int32) (v9 : Int32) (v10 : Nat) (S : Mem) : Option (Int32 × Mem) := (if v8 = (-1) then (if kd v10 = (6, 8) then ((f_X7_open v10 v1 v2 v3 v4 v5 S).bind fun q128 => (f_X2_addStake_131  v0 v1 v6 v7 v8 v9 v10 q128.2)) else none) else (f_X2_addStake_131  v0 v1 v6 v7 v8 v9 v10 S))
set_option maxRecDepth 20000 in
theorem t_X2_addStake_113 {X : MC} {Γ : GG} (C : CX X Γ cX2_addStake 15 "TickPools$Market" 2 63) (hr : X.2.2.2.2.2.2.2.2.1.sig.returnType = some .int) {q : Int32 × Mem} (v0 : Nat) (v1 : Int32) (v2 : Int32) (v3 : Int32) (v4 : Int32) (v5 : Int32) (v6 : Int32) (v7 : Nat) (v8 : Int32) (v9 : Int32) (v10 : Nat) (S : Mem) (hf : f_X2_addStake_113 v0 v1 v2 v3 v4 v5 v6 v7 v8 v9 v10 S = some q) : ZZ X Γ 15 (QQ X Γ (some (aI q.1)) q.2) S 113 [(0, aR v0), (1, aI v1), (2, aI v2), (3, aI v3), (4, aI v4), (5, aI v5), (6, aI v6), (7, aR v7), (8, aI v8), (9, aI v9), (10, aR v10)] [] := by
  unfold f_X2_addStake_113 at hf
  refine z_iload (j := 8) C d_X2_addStake_113 rfl ?_
  refine z_iconst (v := (-1)) C d_X2_addStake_115 (by decide) ?_
  refine z_icmp_ne (tgt := 131) C d_X2_addStake_116 (by decide) hf (fun c116 hf => ?_) (fun c116 hf => ?_)
  · exact z_sub [0, 1, 6, 7, 8, 9, 10] rfl (t_X2_addStake_131 C hr  _ _ _ _ _ _ _ _ hf)
  · refine z_aload (j := 10) C d_X2_addStake_119 rfl ?_
    refine z_iload_n (j := 1) C d_X2_addStake_121 rfl ?_
    refine z_iload_n (j := 2) C d_X2_addStake_122 rfl ?_
    refine z_iload_n (j := 3) C d_X2_addStake_123 rfl ?_
    refine z_iload (j := 4) C d_X2_addStake_124 rfl ?_
    refine z_iload (j := 5) C d_X2_addStake_126 rfl ?_
    obtain ⟨hg128_0, hf⟩ := gd hf
    obtain ⟨q128, hF, hf⟩ := bd hf
    refine z_callV0 (rest := []) C [aI v1, aI v2, aI v3, aI v4, aI v5] hg128_0 (by decide) rfl rfl k_X7_open tw_974 ⟨by decide, by decide⟩ (Nat.le_of_ble_eq_true rfl) d_X2_addStake_128 (c_X7_open C.inj hF) rfl ?_
    exact z_sub [0, 1, 6, 7, 8, 9, 10] rfl (t_X2_addStake_131 C hr  _ _ _ _ _ _ _ _ hf)
def f_X2_addStake_85 (v0 : Nat) (v1 : Int32) (v2 : Int32) (v3 : Int32) (v4 : Int32) (v5 : Int32) (v6 : Int32) (v7 : Nat) (v8 : Int32) (s0 : Int32) (S : Mem) : Option (Int32 × Mem) := (if s0 < 0 then (f_X2_addStake_102  S) else (if kd v0 = (1, 9) then (if s0 < 12 then (if inb s0 12 = true then (f_X2_addStake_113  v0 v1 v2 v3 v4 v5 v6 v7 v8 s0 (gR S (v0 + 3) ((s0 : Int32).toNatClampNeg)) S) else none) else (f_X2_addStake_102  S)) else none))
set_option maxRecDepth 20000 in
theorem t_X2_addStake_85 {X : MC} {Γ : GG} (C : CX X Γ cX2_addStake 15 "TickPools$Market" 2 63) (hr : X.2.2.2.2.2.2.2.2.1.sig.returnType = some .int) {q : Int32 × Mem} (v0 : Nat) (v1 : Int32) (v2 : Int32) (v3 : Int32) (v4 : Int32) (v5 : Int32) (v6 : Int32) (v7 : Nat) (v8 : Int32) (s0 : Int32) (S : Mem) (hf : f_X2_addStake_85 v0 v1 v2 v3 v4 v5 v6 v7 v8 s0 S = some q) : ZZ X Γ 15 (QQ X Γ (some (aI q.1)) q.2) S 85 [(0, aR v0), (1, aI v1), (2, aI v2), (3, aI v3), (4, aI v4), (5, aI v5), (6, aI v6), (7, aR v7), (8, aI v8)] [aI s0] := by
  unfold f_X2_addStake_85 at hf
  refine z_istore (lv' := [(9, aI s0), (0, aR v0), (1, aI v1), (2, aI v2), (3, aI v3), (4, aI v4), (5, aI v5), (6, aI v6), (7, aR v7), (8, aI v8)]) C d_X2_addStake_85 (by decide) rfl ?_
  refine z_iload (j := 0) C d_X2_addStake_87 rfl ?_
  refine z_if_lt (tgt := 102) C d_X2_addStake_89 (by decide) hf (fun c89 hf => ?_) (fun c89 hf => ?_)
  · exact z_sub [] rfl (t_X2_addStake_102 C hr  _ hf)
  · refine z_iload (j := 0) C d_X2_addStake_92 rfl ?_
    refine z_aload_n (j := 1) C d_X2_addStake_94 rfl ?_
    obtain ⟨hg95_0, hf⟩ := gd hf
    refine zg_X2_stakeRow C hg95_0 tw_210 d_X2_addStake_95 ?_
    refine z_alen (v := 12) C (kdM3 hg95_0) (by decide) (by decide) d_X2_addStake_98 ?_
    refine z_icmp_lt (tgt := 104) C d_X2_addStake_99 (by decide) hf (fun c99 hf => ?_) (fun c99 hf => ?_)
    · refine z_aload_n (j := 1) C d_X2_addStake_104 rfl ?_
      refine zg_X2_stakeRow C hg95_0 tw_210 d_X2_addStake_105 ?_
      refine z_iload (j := 0) C d_X2_addStake_108 rfl ?_
      obtain ⟨hi110_0, hf⟩ := gd hf
      refine z_aldS C (kdM3 hg95_0) hi110_0 d_X2_addStake_110 ?_
      refine z_astore (lv' := [(10, aR (gR S (v0 + 3) ((s0 : Int32).toNatClampNeg))), (9, aI s0), (0, aR v0), (1, aI v1), (2, aI v2), (3, aI v3), (4, aI v4), (5, aI v5), (6, aI v6), (7, aR v7), (8, aI v8)]) C d_X2_addStake_111 (by decide) rfl ?_
      exact z_sub [2, 3, 4, 5, 6, 7, 8, 9, 10, 1, 0] rfl (t_X2_addStake_113 C hr  _ _ _ _ _ _ _ _ _ _ _ _ hf)
    · exact z_sub [] rfl (t_X2_addStake_102 C hr  _ hf)
/-- TickPools$Market.addStake(IIIIII)I -/
def f_X2_addStake (h0 : Nat) (p1 : Int32) (p2 : Int32) (p3 : Int32) (p4 : Int32) (p5 : Int32) (p6 : Int32) (S : Mem) : Option (Int32 × Mem) := (if kd h0 = (1, 9) then ((f_X2_poolAt h0 p2 S).bind fun q2 => (if q2.1 = 0 then (f_X2_addStake_55  q2.2) else ((f_X2_hasPerson h0 p1 q2.2).bind fun q14 => (if q14.1 = 0 then (f_X2_addStake_55  q14.2) else (if p5 < 0 then (f_X2_addStake_55  q14.2) else (if 2 < p5 then (f_X2_addStake_55  q14.2) else ((f_X2_isRange q2.1 p3 p4 q14.2).bind fun q36 => (if q36.1 = 0 then (f_X2_addStake_55  q36.2) else (if p6 < 1 then (f_X2_addStake_55  q36.2) else (if p6 ≤ 99999 then ((f_X2_findStake h0 p1 p2 p3 p4 p5 q36.2).bind fun q65 => (if q65.1 = (-1) then (f_X2_addStake_85  h0 p1 p2 p3 p4 p5 p6 q2.1 q65.1 (gI q65.2 h0 3) q65.2) else (f_X2_addStake_85  h0 p1 p2 p3 p4 p5 p6 q2.1 q65.1 q65.1 q65.2))) else (f_X2_addStake_55  q36.2))))))))))) else none)
set_option maxRecDepth 20000 in
theorem c_X2_addStake {l : Launch} {Γ : GG} (hI : Inj Γ) {h0 : Nat} {p1 : Int32} {p2 : Int32} {p3 : Int32} {p4 : Int32} {p5 : Int32} {p6 : Int32} {S : Mem} {q : Int32 × Mem} (hf : f_X2_addStake h0 p1 p2 p3 p4 p5 p6 S = some q) : MM l Γ yX2_addStake cX2_addStake 15 (some .int) 2 63 [aR h0, aI p1, aI p2, aI p3, aI p4, aI p5, aI p6] S (some (aI q.1)) q.2 := by
  refine met_of hI "TickPools$Market" rfl (by decide +kernel) (Nat.le_of_ble_eq_true rfl) (fun X hX C hr => ?_)
  unfold f_X2_addStake at hf
  show ZZ X Γ 15 _ S 0 [(0, aR h0), (1, aI p1), (2, aI p2), (3, aI p3), (4, aI p4), (5, aI p5), (6, aI p6)] []
  refine z_aload_n (j := 0) C d_X2_addStake_0 rfl ?_
  refine z_iload_n (j := 2) C d_X2_addStake_1 rfl ?_
  obtain ⟨hg2_0, hf⟩ := gd hf
  obtain ⟨q2, hF, hf⟩ := bd hf
  refine z_callV1 (rest := []) C [aI p2] hg2_0 (by decide) rfl rfl k_X2_poolAt tw_810 ⟨by decide, by decide⟩ (Nat.le_of_ble_eq_true rfl) d_X2_addStake_2 (c_X2_poolAt C.inj hF) rfl ?_
  refine z_astore (lv' := [(7, aR q2.1), (0, aR h0), (1, aI p1), (2, aI p2), (3, aI p3), (4, aI p4), (5, aI p5), (6, aI p6)]) C d_X2_addStake_5 (by decide) rfl ?_
  refine z_aload (j := 0) C d_X2_addStake_7 rfl ?_
  refine z_ifnull (tgt := 55) C d_X2_addStake_9 (by decide) hf (fun c9 hf => ?_) (fun c9 hf => ?_)
  · exact z_sub [] rfl (t_X2_addStake_55 C hr  _ hf)
  · refine z_aload_n (j := 1) C d_X2_addStake_12 rfl ?_
    refine z_iload_n (j := 2) C d_X2_addStake_13 rfl ?_
    obtain ⟨q14, hF, hf⟩ := bd hf
    refine z_callV1 (rest := []) C [aI p1] hg2_0 (by decide) rfl rfl k_X2_hasPerson tw_958 ⟨by decide, by decide⟩ (Nat.le_of_ble_eq_true rfl) d_X2_addStake_14 (c_X2_hasPerson C.inj hF) rfl ?_
    refine z_if_eq (tgt := 55) C d_X2_addStake_17 (by decide) hf (fun c17 hf => ?_) (fun c17 hf => ?_)
    · exact z_sub [] rfl (t_X2_addStake_55 C hr  _ hf)
    · refine z_iload (j := 6) C d_X2_addStake_20 rfl ?_
      refine z_if_lt (tgt := 55) C d_X2_addStake_22 (by decide) hf (fun c22 hf => ?_) (fun c22 hf => ?_)
      · exact z_sub [] rfl (t_X2_addStake_55 C hr  _ hf)
      · refine z_iload (j := 6) C d_X2_addStake_25 rfl ?_
        refine z_iconst (v := 2) C d_X2_addStake_27 (by decide) ?_
        refine z_icmp_gt (tgt := 55) C d_X2_addStake_28 (by decide) hf (fun c28 hf => ?_) (fun c28 hf => ?_)
        · exact z_sub [] rfl (t_X2_addStake_55 C hr  _ hf)
        · refine z_aload (j := 0) C d_X2_addStake_31 rfl ?_
          refine z_iload_n (j := 4) C d_X2_addStake_33 rfl ?_
          refine z_iload (j := 5) C d_X2_addStake_34 rfl ?_
          obtain ⟨q36, hF, hf⟩ := bd hf
          refine z_callS1 (rest := []) C [aR q2.1, aI p3, aI p4] k_X2_isRange tw_959 ⟨by decide, by decide⟩ (Nat.le_of_ble_eq_true rfl) d_X2_addStake_36 (c_X2_isRange C.inj hF) rfl ?_
          refine z_if_eq (tgt := 55) C d_X2_addStake_39 (by decide) hf (fun c39 hf => ?_) (fun c39 hf => ?_)
          · exact z_sub [] rfl (t_X2_addStake_55 C hr  _ hf)
          · refine z_iload (j := 7) C d_X2_addStake_42 rfl ?_
            refine z_iconst (v := 1) C d_X2_addStake_44 (by decide) ?_
            refine z_icmp_lt (tgt := 55) C d_X2_addStake_45 (by decide) hf (fun c45 hf => ?_) (fun c45 hf => ?_)
            · exact z_sub [] rfl (t_X2_addStake_55 C hr  _ hf)
            · refine z_iload (j := 7) C d_X2_addStake_48 rfl ?_
              refine z_ldc (v := 99999) C tw_965 d_X2_addStake_50 ?_
              refine z_icmp_le (tgt := 57) C d_X2_addStake_52 (by decide) hf (fun c52 hf => ?_) (fun c52 hf => ?_)
              · refine z_aload_n (j := 1) C d_X2_addStake_57 rfl ?_
                refine z_iload_n (j := 2) C d_X2_addStake_58 rfl ?_
                refine z_iload_n (j := 3) C d_X2_addStake_59 rfl ?_
                refine z_iload_n (j := 4) C d_X2_addStake_60 rfl ?_
                refine z_iload (j := 5) C d_X2_addStake_61 rfl ?_
                refine z_iload (j := 6) C d_X2_addStake_63 rfl ?_
                obtain ⟨q65, hF, hf⟩ := bd hf
                refine z_callV1 (rest := []) C [aI p1, aI p2, aI p3, aI p4, aI p5] hg2_0 (by decide) rfl rfl k_X2_findStake tw_966 ⟨by decide, by decide⟩ (Nat.le_of_ble_eq_true rfl) d_X2_addStake_65 (c_X2_findStake C.inj hF) rfl ?_
                refine z_istore (lv' := [(8, aI q65.1), (7, aR q2.1), (0, aR h0), (1, aI p1), (2, aI p2), (3, aI p3), (4, aI p4), (5, aI p5), (6, aI p6)]) C d_X2_addStake_68 (by decide) rfl ?_
                refine z_iload (j := 0) C d_X2_addStake_70 rfl ?_
                refine z_iconst (v := (-1)) C d_X2_addStake_72 (by decide) ?_
                refine z_icmp_ne (tgt := 83) C d_X2_addStake_73 (by decide) hf (fun c73 hf => ?_) (fun c73 hf => ?_)
                · refine z_iload (j := 0) C d_X2_addStake_83 rfl ?_
                  exact z_sub [2, 3, 4, 5, 6, 7, 8, 1, 0] rfl (t_X2_addStake_85 C hr  _ _ _ _ _ _ _ _ _ _ _ hf)
                · refine z_aload_n (j := 2) C d_X2_addStake_76 rfl ?_
                  refine zg_X2_stakes C hg2_0 tw_200 d_X2_addStake_77 ?_
                  refine z_goto (tgt := 85) C d_X2_addStake_80 (by decide) ?_
                  exact z_sub [2, 3, 4, 5, 6, 7, 8, 1, 0] rfl (t_X2_addStake_85 C hr  _ _ _ _ _ _ _ _ _ _ _ hf)
              · exact z_sub [] rfl (t_X2_addStake_55 C hr  _ hf)
theorem d_X9_rewind_0 : decode cX9_rewind 0 = .ok (.aload_n 0, 1) := by decide +kernel
theorem d_X9_rewind_1 : decode cX9_rewind 1 = .ok (.iconst 0, 1) := by decide +kernel
theorem d_X9_rewind_2 : decode cX9_rewind 2 = .ok (.putfield 19, 3) := by decide +kernel
theorem d_X9_rewind_5 : decode cX9_rewind 5 = .ok (.aload_n 0, 1) := by decide +kernel
theorem d_X9_rewind_6 : decode cX9_rewind 6 = .ok (.iconst 0, 1) := by decide +kernel
theorem d_X9_rewind_7 : decode cX9_rewind 7 = .ok (.putfield 22, 3) := by decide +kernel
theorem d_X9_rewind_10 : decode cX9_rewind 10 = .ok (.return_, 1) := by decide +kernel
/-- TickPools$Tape.rewind()V -/
def f_X9_rewind (S : Mem) : Option (Unit × Mem) := (some ((), (sI (sI S 2 5 0) 2 1 0)))
set_option maxRecDepth 20000 in
theorem c_X9_rewind {l : Launch} {Γ : GG} (hI : Inj Γ) {S : Mem} {q : Unit × Mem} (hf : f_X9_rewind S = some q) : MM l Γ yX9_rewind cX9_rewind 1 (none) 0 0 [aR 2] S none q.2 := by
  refine met_of hI "TickPools$Tape" rfl (by decide +kernel) (Nat.le_of_ble_eq_true rfl) (fun X hX C hr => ?_)
  unfold f_X9_rewind at hf
  show ZZ X Γ 1 _ S 0 [(0, aR 2)] []
  refine z_aload_n (j := 0) C d_X9_rewind_0 rfl ?_
  refine z_iconst (v := 0) C d_X9_rewind_1 (by decide) ?_
  refine zp_X9_at C rfl tw_43 d_X9_rewind_2 ?_
  refine z_aload_n (j := 0) C d_X9_rewind_5 rfl ?_
  refine z_iconst (v := 0) C d_X9_rewind_6 (by decide) ?_
  refine zp_X9_fault C rfl tw_35 d_X9_rewind_7 ?_
  exact r_v C hr d_X9_rewind_10 hf
theorem d_X9_byteAt_0 : decode cX9_byteAt 0 = .ok (.iload_n 1, 1) := by decide +kernel
theorem d_X9_byteAt_1 : decode cX9_byteAt 1 = .ok (.ifCond .lt 33, 3) := by decide +kernel
theorem d_X9_byteAt_4 : decode cX9_byteAt 4 = .ok (.iload_n 1, 1) := by decide +kernel
theorem d_X9_byteAt_5 : decode cX9_byteAt 5 = .ok (.aload_n 0, 1) := by decide +kernel
theorem d_X9_byteAt_6 : decode cX9_byteAt 6 = .ok (.getfield 15, 3) := by decide +kernel
theorem d_X9_byteAt_9 : decode cX9_byteAt 9 = .ok (.if_icmp .ge 25, 3) := by decide +kernel
theorem d_X9_byteAt_12 : decode cX9_byteAt 12 = .ok (.iload_n 1, 1) := by decide +kernel
theorem d_X9_byteAt_13 : decode cX9_byteAt 13 = .ok (.aload_n 0, 1) := by decide +kernel
theorem d_X9_byteAt_14 : decode cX9_byteAt 14 = .ok (.getfield 9, 3) := by decide +kernel
theorem d_X9_byteAt_17 : decode cX9_byteAt 17 = .ok (.arraylength, 1) := by decide +kernel
theorem d_X9_byteAt_18 : decode cX9_byteAt 18 = .ok (.if_icmp .ge 16, 3) := by decide +kernel
theorem d_X9_byteAt_21 : decode cX9_byteAt 21 = .ok (.aload_n 0, 1) := by decide +kernel
theorem d_X9_byteAt_22 : decode cX9_byteAt 22 = .ok (.getfield 9, 3) := by decide +kernel
theorem d_X9_byteAt_25 : decode cX9_byteAt 25 = .ok (.iload_n 1, 1) := by decide +kernel
theorem d_X9_byteAt_26 : decode cX9_byteAt 26 = .ok (.baload, 1) := by decide +kernel
theorem d_X9_byteAt_27 : decode cX9_byteAt 27 = .ok (.sipush 255, 3) := by decide +kernel
theorem d_X9_byteAt_30 : decode cX9_byteAt 30 = .ok (.iand, 1) := by decide +kernel
theorem d_X9_byteAt_31 : decode cX9_byteAt 31 = .ok (.goto 4, 3) := by decide +kernel
theorem d_X9_byteAt_34 : decode cX9_byteAt 34 = .ok (.iconst (-1), 1) := by decide +kernel
theorem d_X9_byteAt_35 : decode cX9_byteAt 35 = .ok (.ireturn, 1) := by decide +kernel
def f_X9_byteAt_35 (s0 : Int32) (S : Mem) : Option (Int32 × Mem) := (some (s0, S))
set_option maxRecDepth 20000 in
theorem t_X9_byteAt_35 {X : MC} {Γ : GG} (C : CX X Γ cX9_byteAt 2 "TickPools$Tape" 0 0) (hr : X.2.2.2.2.2.2.2.2.1.sig.returnType = some .int) {q : Int32 × Mem} (s0 : Int32) (S : Mem) (hf : f_X9_byteAt_35 s0 S = some q) : ZZ X Γ 2 (QQ X Γ (some (aI q.1)) q.2) S 35 [] [aI s0] := by
  unfold f_X9_byteAt_35 at hf
  exact r_i C hr rfl d_X9_byteAt_35 hf
def f_X9_byteAt_34 (S : Mem) : Option (Int32 × Mem) := (f_X9_byteAt_35  (-1) S)
set_option maxRecDepth 20000 in
theorem t_X9_byteAt_34 {X : MC} {Γ : GG} (C : CX X Γ cX9_byteAt 2 "TickPools$Tape" 0 0) (hr : X.2.2.2.2.2.2.2.2.1.sig.returnType = some .int) {q : Int32 × Mem} (S : Mem) (hf : f_X9_byteAt_34 S = some q) : ZZ X Γ 2 (QQ X Γ (some (aI q.1)) q.2) S 34 [] [] := by
  unfold f_X9_byteAt_34 at hf
  refine z_iconst (v := (-1)) C d_X9_byteAt_34 (by decide) ?_
  exact z_sub [] rfl (t_X9_byteAt_35 C hr  _ _ hf)
/-- TickPools$Tape.byteAt(I)I -/
def f_X9_byteAt (p1 : Int32) (S : Mem) : Option (Int32 × Mem) := (if p1 < 0 then (f_X9_byteAt_34  S) else (if (gI S 2 0) ≤ p1 then (f_X9_byteAt_34  S) else (if 400 ≤ p1 then (f_X9_byteAt_34  S) else (if inb p1 400 = true then (f_X9_byteAt_35  ((gI S 3 ((p1 : Int32).toNatClampNeg)) &&& 255) S) else none))))
set_option maxRecDepth 20000 in
theorem c_X9_byteAt {l : Launch} {Γ : GG} (hI : Inj Γ) {p1 : Int32} {S : Mem} {q : Int32 × Mem} (hf : f_X9_byteAt p1 S = some q) : MM l Γ yX9_byteAt cX9_byteAt 2 (some .int) 0 0 [aR 2, aI p1] S (some (aI q.1)) q.2 := by
  refine met_of hI "TickPools$Tape" rfl (by decide +kernel) (Nat.le_of_ble_eq_true rfl) (fun X hX C hr => ?_)
  unfold f_X9_byteAt at hf
  show ZZ X Γ 2 _ S 0 [(0, aR 2), (1, aI p1)] []
  refine z_iload_n (j := 1) C d_X9_byteAt_0 rfl ?_
  refine z_if_lt (tgt := 34) C d_X9_byteAt_1 (by decide) hf (fun c1 hf => ?_) (fun c1 hf => ?_)
  · exact z_sub [] rfl (t_X9_byteAt_34 C hr  _ hf)
  · refine z_iload_n (j := 1) C d_X9_byteAt_4 rfl ?_
    refine z_aload_n (j := 0) C d_X9_byteAt_5 rfl ?_
    refine zg_X9_length C rfl tw_33 d_X9_byteAt_6 ?_
    refine z_icmp_ge (tgt := 34) C d_X9_byteAt_9 (by decide) hf (fun c9 hf => ?_) (fun c9 hf => ?_)
    · exact z_sub [] rfl (t_X9_byteAt_34 C hr  _ hf)
    · refine z_iload_n (j := 1) C d_X9_byteAt_12 rfl ?_
      refine z_aload_n (j := 0) C d_X9_byteAt_13 rfl ?_
      refine zg_X9_bytes C rfl tw_44 d_X9_byteAt_14 ?_
      refine z_alen (v := 400) C rfl (by decide) (by decide) d_X9_byteAt_17 ?_
      refine z_icmp_ge (tgt := 34) C d_X9_byteAt_18 (by decide) hf (fun c18 hf => ?_) (fun c18 hf => ?_)
      · exact z_sub [] rfl (t_X9_byteAt_34 C hr  _ hf)
      · refine z_aload_n (j := 0) C d_X9_byteAt_21 rfl ?_
        refine zg_X9_bytes C rfl tw_44 d_X9_byteAt_22 ?_
        refine z_iload_n (j := 1) C d_X9_byteAt_25 rfl ?_
        obtain ⟨hi26_0, hf⟩ := gd hf
        refine z_bald C rfl hi26_0 d_X9_byteAt_26 ?_
        refine z_sipush (v := 255) C d_X9_byteAt_27 (by decide) ?_
        refine z_iand C d_X9_byteAt_30 ?_
        refine z_goto (tgt := 35) C d_X9_byteAt_31 (by decide) ?_
        exact z_sub [] rfl (t_X9_byteAt_35 C hr  _ _ hf)
theorem d_X9_peek_0 : decode cX9_peek 0 = .ok (.aload_n 0, 1) := by decide +kernel
theorem d_X9_peek_1 : decode cX9_peek 1 = .ok (.getfield 19, 3) := by decide +kernel
theorem d_X9_peek_4 : decode cX9_peek 4 = .ok (.aload_n 0, 1) := by decide +kernel
theorem d_X9_peek_5 : decode cX9_peek 5 = .ok (.getfield 15, 3) := by decide +kernel
theorem d_X9_peek_8 : decode cX9_peek 8 = .ok (.if_icmp .ge 29, 3) := by decide +kernel
theorem d_X9_peek_11 : decode cX9_peek 11 = .ok (.aload_n 0, 1) := by decide +kernel
theorem d_X9_peek_12 : decode cX9_peek 12 = .ok (.aload_n 0, 1) := by decide +kernel
theorem d_X9_peek_13 : decode cX9_peek 13 = .ok (.getfield 19, 3) := by decide +kernel
theorem d_X9_peek_16 : decode cX9_peek 16 = .ok (.invokevirtual 25, 3) := by decide +kernel
theorem d_X9_peek_19 : decode cX9_peek 19 = .ok (.bipush 32, 2) := by decide +kernel
theorem d_X9_peek_21 : decode cX9_peek 21 = .ok (.if_icmp .ne 16, 3) := by decide +kernel
theorem d_X9_peek_24 : decode cX9_peek 24 = .ok (.aload_n 0, 1) := by decide +kernel
theorem d_X9_peek_25 : decode cX9_peek 25 = .ok (.dup, 1) := by decide +kernel
theorem d_X9_peek_26 : decode cX9_peek 26 = .ok (.getfield 19, 3) := by decide +kernel
theorem d_X9_peek_29 : decode cX9_peek 29 = .ok (.iconst 1, 1) := by decide +kernel
theorem d_X9_peek_30 : decode cX9_peek 30 = .ok (.iadd, 1) := by decide +kernel
theorem d_X9_peek_31 : decode cX9_peek 31 = .ok (.putfield 19, 3) := by decide +kernel
theorem d_X9_peek_34 : decode cX9_peek 34 = .ok (.goto (-34), 3) := by decide +kernel
theorem d_X9_peek_37 : decode cX9_peek 37 = .ok (.aload_n 0, 1) := by decide +kernel
theorem d_X9_peek_38 : decode cX9_peek 38 = .ok (.aload_n 0, 1) := by decide +kernel
theorem d_X9_peek_39 : decode cX9_peek 39 = .ok (.getfield 19, 3) := by decide +kernel
theorem d_X9_peek_42 : decode cX9_peek 42 = .ok (.invokevirtual 25, 3) := by decide +kernel
theorem d_X9_peek_45 : decode cX9_peek 45 = .ok (.ireturn, 1) := by decide +kernel
def f_X9_peek_37 (S : Mem) : Option (Int32 × Mem) := ((f_X9_byteAt (gI S 2 5) S).bind fun q42 => (some (q42.1, q42.2)))
set_option maxRecDepth 20000 in
theorem t_X9_peek_37 {X : MC} {Γ : GG} (C : CX X Γ cX9_peek 1 "TickPools$Tape" 1 21) (hr : X.2.2.2.2.2.2.2.2.1.sig.returnType = some .int) {q : Int32 × Mem} (S : Mem) (hf : f_X9_peek_37 S = some q) : ZZ X Γ 1 (QQ X Γ (some (aI q.1)) q.2) S 37 [(0, aR 2)] [] := by
  unfold f_X9_peek_37 at hf
  refine z_aload_n (j := 0) C d_X9_peek_37 rfl ?_
  refine z_aload_n (j := 0) C d_X9_peek_38 rfl ?_
  refine zg_X9_at C rfl tw_43 d_X9_peek_39 ?_
  obtain ⟨q42, hF, hf⟩ := bd hf
  refine z_callV1 (rest := []) C [aI (gI S 2 5)] rfl (by decide) rfl rfl k_X9_byteAt tw_529 ⟨by decide, by decide⟩ (Nat.le_of_ble_eq_true rfl) d_X9_peek_42 (c_X9_byteAt C.inj hF) rfl ?_
  exact r_i C hr rfl d_X9_peek_45 hf
def f_X9_peek_0B (k0 : Mem → Option (Int32 × Mem)) (S : Mem) : Option (Int32 × Mem) := (if (gI S 2 0) ≤ (gI S 2 5) then (f_X9_peek_37  S) else ((f_X9_byteAt (gI S 2 5) S).bind fun q16 => (if q16.1 = 32 then (k0 (sI q16.2 2 5 ((gI q16.2 2 5) + 1))) else (f_X9_peek_37  q16.2))))
set_option maxRecDepth 20000 in
theorem t_X9_peek_0B {X : MC} {Γ : GG} (C : CX X Γ cX9_peek 1 "TickPools$Tape" 1 21) (hr : X.2.2.2.2.2.2.2.2.1.sig.returnType = some .int) {k0 : Mem → Option (Int32 × Mem)} {q : Int32 × Mem} (hk0 : ∀  (S : Mem), k0  S = some q → ZZ X Γ 1 (QQ X Γ (some (aI q.1)) q.2) S 0 [(0, aR 2)] []) (S : Mem) (hf : f_X9_peek_0B k0 S = some q) : ZZ X Γ 1 (QQ X Γ (some (aI q.1)) q.2) S 0 [(0, aR 2)] [] := by
  unfold f_X9_peek_0B at hf
  refine z_aload_n (j := 0) C d_X9_peek_0 rfl ?_
  refine zg_X9_at C rfl tw_43 d_X9_peek_1 ?_
  refine z_aload_n (j := 0) C d_X9_peek_4 rfl ?_
  refine zg_X9_length C rfl tw_33 d_X9_peek_5 ?_
  refine z_icmp_ge (tgt := 37) C d_X9_peek_8 (by decide) hf (fun c8 hf => ?_) (fun c8 hf => ?_)
  · exact z_sub [0] rfl (t_X9_peek_37 C hr  _ hf)
  · refine z_aload_n (j := 0) C d_X9_peek_11 rfl ?_
    refine z_aload_n (j := 0) C d_X9_peek_12 rfl ?_
    refine zg_X9_at C rfl tw_43 d_X9_peek_13 ?_
    obtain ⟨q16, hF, hf⟩ := bd hf
    refine z_callV1 (rest := []) C [aI (gI S 2 5)] rfl (by decide) rfl rfl k_X9_byteAt tw_529 ⟨by decide, by decide⟩ (Nat.le_of_ble_eq_true rfl) d_X9_peek_16 (c_X9_byteAt C.inj hF) rfl ?_
    refine z_bipush (v := 32) C d_X9_peek_19 (by decide) ?_
    refine z_icmp_ne (tgt := 37) C d_X9_peek_21 (by decide) hf (fun c21 hf => ?_) (fun c21 hf => ?_)
    · exact z_sub [0] rfl (t_X9_peek_37 C hr  _ hf)
    · refine z_aload_n (j := 0) C d_X9_peek_24 rfl ?_
      refine z_dup C d_X9_peek_25 rfl ?_
      refine zg_X9_at C rfl tw_43 d_X9_peek_26 ?_
      refine z_iconst (v := 1) C d_X9_peek_29 (by decide) ?_
      refine z_iadd C d_X9_peek_30 ?_
      refine zp_X9_at C rfl tw_43 d_X9_peek_31 ?_
      refine z_goto (tgt := 0) C d_X9_peek_34 (by decide) ?_
      exact z_sub [0] rfl (hk0 _ hf)
def f_X9_peek_0 : Nat → Mem → Option (Int32 × Mem)
  | 0 => fun _ => none
  | n + 1 => f_X9_peek_0B (f_X9_peek_0 n)
theorem t_X9_peek_0 {X : MC} {Γ : GG} (C : CX X Γ cX9_peek 1 "TickPools$Tape" 1 21) (hr : X.2.2.2.2.2.2.2.2.1.sig.returnType = some .int) {q : Int32 × Mem} : ∀ (n : Nat) (S : Mem) (hf : f_X9_peek_0 n S = some q), ZZ X Γ 1 (QQ X Γ (some (aI q.1)) q.2) S 0 [(0, aR 2)] []
  | 0, _, hf => nomatch (show (none : Option (Int32 × Mem)) = some q from hf)
  | n + 1, S, hf => t_X9_peek_0B C hr (t_X9_peek_0 C hr n) S hf
/-- TickPools$Tape.peek()I -/
def f_X9_peek (S : Mem) : Option (Int32 × Mem) := (f_X9_peek_0  100000 S)
set_option maxRecDepth 20000 in
theorem c_X9_peek {l : Launch} {Γ : GG} (hI : Inj Γ) {S : Mem} {q : Int32 × Mem} (hf : f_X9_peek S = some q) : MM l Γ yX9_peek cX9_peek 1 (some .int) 1 21 [aR 2] S (some (aI q.1)) q.2 := by
  refine met_of hI "TickPools$Tape" rfl (by decide +kernel) (Nat.le_of_ble_eq_true rfl) (fun X hX C hr => ?_)
  unfold f_X9_peek at hf
  show ZZ X Γ 1 _ S 0 [(0, aR 2)] []
  exact z_sub [0] rfl (t_X9_peek_0 C hr  100000 _ hf)
theorem d_X9_blame_0 : decode cX9_blame 0 = .ok (.aload_n 0, 1) := by decide +kernel
theorem d_X9_blame_1 : decode cX9_blame 1 = .ok (.iconst 1, 1) := by decide +kernel
theorem d_X9_blame_2 : decode cX9_blame 2 = .ok (.bipush 8, 2) := by decide +kernel
theorem d_X9_blame_4 : decode cX9_blame 4 = .ok (.iload_n 1, 1) := by decide +kernel
theorem d_X9_blame_5 : decode cX9_blame 5 = .ok (.imul, 1) := by decide +kernel
theorem d_X9_blame_6 : decode cX9_blame 6 = .ok (.iadd, 1) := by decide +kernel
theorem d_X9_blame_7 : decode cX9_blame 7 = .ok (.iload_n 2, 1) := by decide +kernel
theorem d_X9_blame_8 : decode cX9_blame 8 = .ok (.iadd, 1) := by decide +kernel
theorem d_X9_blame_9 : decode cX9_blame 9 = .ok (.putfield 22, 3) := by decide +kernel
theorem d_X9_blame_12 : decode cX9_blame 12 = .ok (.iconst 0, 1) := by decide +kernel
theorem d_X9_blame_13 : decode cX9_blame 13 = .ok (.ireturn, 1) := by decide +kernel
/-- TickPools$Tape.blame(II)Z -/
def f_X9_blame (p1 : Int32) (p2 : Int32) (S : Mem) : Option (Int32 × Mem) := (some (0, (sI S 2 1 ((1 + (8 * p1)) + p2))))
set_option maxRecDepth 20000 in
theorem c_X9_blame {l : Launch} {Γ : GG} (hI : Inj Γ) {p1 : Int32} {p2 : Int32} {S : Mem} {q : Int32 × Mem} (hf : f_X9_blame p1 p2 S = some q) : MM l Γ yX9_blame cX9_blame 3 (some .boolean) 0 0 [aR 2, aI p1, aI p2] S (some (aI q.1)) q.2 := by
  refine met_of hI "TickPools$Tape" rfl (by decide +kernel) (Nat.le_of_ble_eq_true rfl) (fun X hX C hr => ?_)
  unfold f_X9_blame at hf
  show ZZ X Γ 3 _ S 0 [(0, aR 2), (1, aI p1), (2, aI p2)] []
  refine z_aload_n (j := 0) C d_X9_blame_0 rfl ?_
  refine z_iconst (v := 1) C d_X9_blame_1 (by decide) ?_
  refine z_bipush (v := 8) C d_X9_blame_2 (by decide) ?_
  refine z_iload_n (j := 1) C d_X9_blame_4 rfl ?_
  refine z_imul C d_X9_blame_5 ?_
  refine z_iadd C d_X9_blame_6 ?_
  refine z_iload_n (j := 2) C d_X9_blame_7 rfl ?_
  refine z_iadd C d_X9_blame_8 ?_
  refine zp_X9_fault C rfl tw_35 d_X9_blame_9 ?_
  refine z_iconst (v := 0) C d_X9_blame_12 (by decide) ?_
  exact r_i C hr (by decide) d_X9_blame_13 hf
theorem d_X9_readWord_0 : decode cX9_readWord 0 = .ok (.aload_n 0, 1) := by decide +kernel
theorem d_X9_readWord_1 : decode cX9_readWord 1 = .ok (.invokevirtual 29, 3) := by decide +kernel
theorem d_X9_readWord_4 : decode cX9_readWord 4 = .ok (.pop, 1) := by decide +kernel
theorem d_X9_readWord_5 : decode cX9_readWord 5 = .ok (.aload_n 0, 1) := by decide +kernel
theorem d_X9_readWord_6 : decode cX9_readWord 6 = .ok (.aload_n 0, 1) := by decide +kernel
theorem d_X9_readWord_7 : decode cX9_readWord 7 = .ok (.getfield 19, 3) := by decide +kernel
theorem d_X9_readWord_10 : decode cX9_readWord 10 = .ok (.putfield 37, 3) := by decide +kernel
theorem d_X9_readWord_13 : decode cX9_readWord 13 = .ok (.aload_n 0, 1) := by decide +kernel
theorem d_X9_readWord_14 : decode cX9_readWord 14 = .ok (.getfield 19, 3) := by decide +kernel
theorem d_X9_readWord_17 : decode cX9_readWord 17 = .ok (.aload_n 0, 1) := by decide +kernel
theorem d_X9_readWord_18 : decode cX9_readWord 18 = .ok (.getfield 15, 3) := by decide +kernel
theorem d_X9_readWord_21 : decode cX9_readWord 21 = .ok (.if_icmp .ge 42, 3) := by decide +kernel
theorem d_X9_readWord_24 : decode cX9_readWord 24 = .ok (.aload_n 0, 1) := by decide +kernel
theorem d_X9_readWord_25 : decode cX9_readWord 25 = .ok (.aload_n 0, 1) := by decide +kernel
theorem d_X9_readWord_26 : decode cX9_readWord 26 = .ok (.getfield 19, 3) := by decide +kernel
theorem d_X9_readWord_29 : decode cX9_readWord 29 = .ok (.invokevirtual 25, 3) := by decide +kernel
theorem d_X9_readWord_32 : decode cX9_readWord 32 = .ok (.bipush 97, 2) := by decide +kernel
theorem d_X9_readWord_34 : decode cX9_readWord 34 = .ok (.if_icmp .lt 29, 3) := by decide +kernel
theorem d_X9_readWord_37 : decode cX9_readWord 37 = .ok (.aload_n 0, 1) := by decide +kernel
theorem d_X9_readWord_38 : decode cX9_readWord 38 = .ok (.aload_n 0, 1) := by decide +kernel
theorem d_X9_readWord_39 : decode cX9_readWord 39 = .ok (.getfield 19, 3) := by decide +kernel
theorem d_X9_readWord_42 : decode cX9_readWord 42 = .ok (.invokevirtual 25, 3) := by decide +kernel
theorem d_X9_readWord_45 : decode cX9_readWord 45 = .ok (.bipush 122, 2) := by decide +kernel
theorem d_X9_readWord_47 : decode cX9_readWord 47 = .ok (.if_icmp .gt 16, 3) := by decide +kernel
theorem d_X9_readWord_50 : decode cX9_readWord 50 = .ok (.aload_n 0, 1) := by decide +kernel
theorem d_X9_readWord_51 : decode cX9_readWord 51 = .ok (.dup, 1) := by decide +kernel
theorem d_X9_readWord_52 : decode cX9_readWord 52 = .ok (.getfield 19, 3) := by decide +kernel
theorem d_X9_readWord_55 : decode cX9_readWord 55 = .ok (.iconst 1, 1) := by decide +kernel
theorem d_X9_readWord_56 : decode cX9_readWord 56 = .ok (.iadd, 1) := by decide +kernel
theorem d_X9_readWord_57 : decode cX9_readWord 57 = .ok (.putfield 19, 3) := by decide +kernel
theorem d_X9_readWord_60 : decode cX9_readWord 60 = .ok (.goto (-47), 3) := by decide +kernel
theorem d_X9_readWord_63 : decode cX9_readWord 63 = .ok (.aload_n 0, 1) := by decide +kernel
theorem d_X9_readWord_64 : decode cX9_readWord 64 = .ok (.aload_n 0, 1) := by decide +kernel
theorem d_X9_readWord_65 : decode cX9_readWord 65 = .ok (.getfield 19, 3) := by decide +kernel
theorem d_X9_readWord_68 : decode cX9_readWord 68 = .ok (.putfield 40, 3) := by decide +kernel
theorem d_X9_readWord_71 : decode cX9_readWord 71 = .ok (.aload_n 0, 1) := by decide +kernel
theorem d_X9_readWord_72 : decode cX9_readWord 72 = .ok (.getfield 40, 3) := by decide +kernel
theorem d_X9_readWord_75 : decode cX9_readWord 75 = .ok (.aload_n 0, 1) := by decide +kernel
theorem d_X9_readWord_76 : decode cX9_readWord 76 = .ok (.getfield 37, 3) := by decide +kernel
theorem d_X9_readWord_79 : decode cX9_readWord 79 = .ok (.if_icmp .gt 15, 3) := by decide +kernel
theorem d_X9_readWord_82 : decode cX9_readWord 82 = .ok (.aload_n 0, 1) := by decide +kernel
theorem d_X9_readWord_83 : decode cX9_readWord 83 = .ok (.aload_n 0, 1) := by decide +kernel
theorem d_X9_readWord_84 : decode cX9_readWord 84 = .ok (.getfield 37, 3) := by decide +kernel
theorem d_X9_readWord_87 : decode cX9_readWord 87 = .ok (.iconst 0, 1) := by decide +kernel
theorem d_X9_readWord_88 : decode cX9_readWord 88 = .ok (.invokevirtual 33, 3) := by decide +kernel
theorem d_X9_readWord_91 : decode cX9_readWord 91 = .ok (.ifCond .eq 7, 3) := by decide +kernel
theorem d_X9_readWord_94 : decode cX9_readWord 94 = .ok (.iconst 1, 1) := by decide +kernel
theorem d_X9_readWord_95 : decode cX9_readWord 95 = .ok (.goto 4, 3) := by decide +kernel
theorem d_X9_readWord_98 : decode cX9_readWord 98 = .ok (.iconst 0, 1) := by decide +kernel
theorem d_X9_readWord_99 : decode cX9_readWord 99 = .ok (.ireturn, 1) := by decide +kernel
def f_X9_readWord_99 (s0 : Int32) (S : Mem) : Option (Int32 × Mem) := (if isB s0 = true then (some (s0, S)) else none)
set_option maxRecDepth 20000 in
theorem t_X9_readWord_99 {X : MC} {Γ : GG} (C : CX X Γ cX9_readWord 1 "TickPools$Tape" 2 41) (hr : X.2.2.2.2.2.2.2.2.1.sig.returnType = some .boolean) {q : Int32 × Mem} (s0 : Int32) (S : Mem) (hf : f_X9_readWord_99 s0 S = some q) : ZZ X Γ 1 (QQ X Γ (some (aI q.1)) q.2) S 99 [] [aI s0] := by
  unfold f_X9_readWord_99 at hf
  obtain ⟨hb99_0, hf⟩ := gd hf
  exact r_i C hr (isB_nar hb99_0).1 d_X9_readWord_99 hf
def f_X9_readWord_94 (S : Mem) : Option (Int32 × Mem) := (f_X9_readWord_99  1 S)
set_option maxRecDepth 20000 in
theorem t_X9_readWord_94 {X : MC} {Γ : GG} (C : CX X Γ cX9_readWord 1 "TickPools$Tape" 2 41) (hr : X.2.2.2.2.2.2.2.2.1.sig.returnType = some .boolean) {q : Int32 × Mem} (S : Mem) (hf : f_X9_readWord_94 S = some q) : ZZ X Γ 1 (QQ X Γ (some (aI q.1)) q.2) S 94 [] [] := by
  unfold f_X9_readWord_94 at hf
  refine z_iconst (v := 1) C d_X9_readWord_94 (by decide) ?_
  refine z_goto (tgt := 99) C d_X9_readWord_95 (by decide) ?_
  exact z_sub [] rfl (t_X9_readWord_99 C hr  _ _ hf)
def f_X9_readWord_63 (S : Mem) : Option (Int32 × Mem) := (if (gI (sI S 2 4 (gI S 2 5)) 2 3) < (gI (sI S 2 4 (gI S 2 5)) 2 4) then (f_X9_readWord_94  (sI S 2 4 (gI S 2 5))) else ((f_X9_blame (gI (sI S 2 4 (gI S 2 5)) 2 3) 0 (sI S 2 4 (gI S 2 5))).bind fun q88 => (if q88.1 = 0 then (f_X9_readWord_99  0 q88.2) else (f_X9_readWord_94  q88.2))))
set_option maxRecDepth 20000 in
theorem t_X9_readWord_63 {X : MC} {Γ : GG} (C : CX X Γ cX9_readWord 1 "TickPools$Tape" 2 41) (hr : X.2.2.2.2.2.2.2.2.1.sig.returnType = some .boolean) {q : Int32 × Mem} (S : Mem) (hf : f_X9_readWord_63 S = some q) : ZZ X Γ 1 (QQ X Γ (some (aI q.1)) q.2) S 63 [(0, aR 2)] [] := by
  unfold f_X9_readWord_63 at hf
  refine z_aload_n (j := 0) C d_X9_readWord_63 rfl ?_
  refine z_aload_n (j := 0) C d_X9_readWord_64 rfl ?_
  refine zg_X9_at C rfl tw_43 d_X9_readWord_65 ?_
  refine zp_X9_wordEnd C rfl tw_42 d_X9_readWord_68 ?_
  refine z_aload_n (j := 0) C d_X9_readWord_71 rfl ?_
  refine zg_X9_wordEnd C rfl tw_42 d_X9_readWord_72 ?_
  refine z_aload_n (j := 0) C d_X9_readWord_75 rfl ?_
  refine zg_X9_wordStart C rfl tw_41 d_X9_readWord_76 ?_
  refine z_icmp_gt (tgt := 94) C d_X9_readWord_79 (by decide) hf (fun c79 hf => ?_) (fun c79 hf => ?_)
  · exact z_sub [] rfl (t_X9_readWord_94 C hr  _ hf)
  · refine z_aload_n (j := 0) C d_X9_readWord_82 rfl ?_
    refine z_aload_n (j := 0) C d_X9_readWord_83 rfl ?_
    refine zg_X9_wordStart C rfl tw_41 d_X9_readWord_84 ?_
    refine z_iconst (v := 0) C d_X9_readWord_87 (by decide) ?_
    obtain ⟨q88, hF, hf⟩ := bd hf
    refine z_callV1 (rest := []) C [aI (gI (sI S 2 4 (gI S 2 5)) 2 3), aI 0] rfl (by decide) rfl rfl k_X9_blame tw_533 ⟨by decide, by decide⟩ (Nat.le_of_ble_eq_true rfl) d_X9_readWord_88 (c_X9_blame C.inj hF) rfl ?_
    refine z_if_eq (tgt := 98) C d_X9_readWord_91 (by decide) hf (fun c91 hf => ?_) (fun c91 hf => ?_)
    · refine z_iconst (v := 0) C d_X9_readWord_98 (by decide) ?_
      exact z_sub [] rfl (t_X9_readWord_99 C hr  _ _ hf)
    · exact z_sub [] rfl (t_X9_readWord_94 C hr  _ hf)
def f_X9_readWord_13B (k13 : Mem → Option (Int32 × Mem)) (S : Mem) : Option (Int32 × Mem) := (if (gI S 2 0) ≤ (gI S 2 5) then (f_X9_readWord_63  S) else ((f_X9_byteAt (gI S 2 5) S).bind fun q29 => (if q29.1 < 97 then (f_X9_readWord_63  q29.2) else ((f_X9_byteAt (gI q29.2 2 5) q29.2).bind fun q42 => (if 122 < q42.1 then (f_X9_readWord_63  q42.2) else (k13 (sI q42.2 2 5 ((gI q42.2 2 5) + 1))))))))
set_option maxRecDepth 20000 in
theorem t_X9_readWord_13B {X : MC} {Γ : GG} (C : CX X Γ cX9_readWord 1 "TickPools$Tape" 2 41) (hr : X.2.2.2.2.2.2.2.2.1.sig.returnType = some .boolean) {k13 : Mem → Option (Int32 × Mem)} {q : Int32 × Mem} (hk13 : ∀  (S : Mem), k13  S = some q → ZZ X Γ 1 (QQ X Γ (some (aI q.1)) q.2) S 13 [(0, aR 2)] []) (S : Mem) (hf : f_X9_readWord_13B k13 S = some q) : ZZ X Γ 1 (QQ X Γ (some (aI q.1)) q.2) S 13 [(0, aR 2)] [] := by
  unfold f_X9_readWord_13B at hf
  refine z_aload_n (j := 0) C d_X9_readWord_13 rfl ?_
  refine zg_X9_at C rfl tw_43 d_X9_readWord_14 ?_
  refine z_aload_n (j := 0) C d_X9_readWord_17 rfl ?_
  refine zg_X9_length C rfl tw_33 d_X9_readWord_18 ?_
  refine z_icmp_ge (tgt := 63) C d_X9_readWord_21 (by decide) hf (fun c21 hf => ?_) (fun c21 hf => ?_)
  · exact z_sub [0] rfl (t_X9_readWord_63 C hr  _ hf)
  · refine z_aload_n (j := 0) C d_X9_readWord_24 rfl ?_
    refine z_aload_n (j := 0) C d_X9_readWord_25 rfl ?_
    refine zg_X9_at C rfl tw_43 d_X9_readWord_26 ?_
    obtain ⟨q29, hF, hf⟩ := bd hf
    refine z_callV1 (rest := []) C [aI (gI S 2 5)] rfl (by decide) rfl rfl k_X9_byteAt tw_529 ⟨by decide, by decide⟩ (Nat.le_of_ble_eq_true rfl) d_X9_readWord_29 (c_X9_byteAt C.inj hF) rfl ?_
    refine z_bipush (v := 97) C d_X9_readWord_32 (by decide) ?_
    refine z_icmp_lt (tgt := 63) C d_X9_readWord_34 (by decide) hf (fun c34 hf => ?_) (fun c34 hf => ?_)
    · exact z_sub [0] rfl (t_X9_readWord_63 C hr  _ hf)
    · refine z_aload_n (j := 0) C d_X9_readWord_37 rfl ?_
      refine z_aload_n (j := 0) C d_X9_readWord_38 rfl ?_
      refine zg_X9_at C rfl tw_43 d_X9_readWord_39 ?_
      obtain ⟨q42, hF, hf⟩ := bd hf
      refine z_callV1 (rest := []) C [aI (gI q29.2 2 5)] rfl (by decide) rfl rfl k_X9_byteAt tw_529 ⟨by decide, by decide⟩ (Nat.le_of_ble_eq_true rfl) d_X9_readWord_42 (c_X9_byteAt C.inj hF) rfl ?_
      refine z_bipush (v := 122) C d_X9_readWord_45 (by decide) ?_
      refine z_icmp_gt (tgt := 63) C d_X9_readWord_47 (by decide) hf (fun c47 hf => ?_) (fun c47 hf => ?_)
      · exact z_sub [0] rfl (t_X9_readWord_63 C hr  _ hf)
      · refine z_aload_n (j := 0) C d_X9_readWord_50 rfl ?_
        refine z_dup C d_X9_readWord_51 rfl ?_
        refine zg_X9_at C rfl tw_43 d_X9_readWord_52 ?_
        refine z_iconst (v := 1) C d_X9_readWord_55 (by decide) ?_
        refine z_iadd C d_X9_readWord_56 ?_
        refine zp_X9_at C rfl tw_43 d_X9_readWord_57 ?_
        refine z_goto (tgt := 13) C d_X9_readWord_60 (by decide) ?_
        exact z_sub [0] rfl (hk13 _ hf)
def f_X9_readWord_13 : Nat → Mem → Option (Int32 × Mem)
  | 0 => fun _ => none
  | n + 1 => f_X9_readWord_13B (f_X9_readWord_13 n)
theorem t_X9_readWord_13 {X : MC} {Γ : GG} (C : CX X Γ cX9_readWord 1 "TickPools$Tape" 2 41) (hr : X.2.2.2.2.2.2.2.2.1.sig.returnType = some .boolean) {q : Int32 × Mem} : ∀ (n : Nat) (S : Mem) (hf : f_X9_readWord_13 n S = some q), ZZ X Γ 1 (QQ X Γ (some (aI q.1)) q.2) S 13 [(0, aR 2)] []
  | 0, _, hf => nomatch (show (none : Option (Int32 × Mem)) = some q from hf)
  | n + 1, S, hf => t_X9_readWord_13B C hr (t_X9_readWord_13 C hr n) S hf
/-- TickPools$Tape.readWord()Z -/
def f_X9_readWord (S : Mem) : Option (Int32 × Mem) := ((f_X9_peek S).bind fun q1 => (f_X9_readWord_13  100000 (sI q1.2 2 3 (gI q1.2 2 5))))
set_option maxRecDepth 20000 in
theorem c_X9_readWord {l : Launch} {Γ : GG} (hI : Inj Γ) {S : Mem} {q : Int32 × Mem} (hf : f_X9_readWord S = some q) : MM l Γ yX9_readWord cX9_readWord 1 (some .boolean) 2 41 [aR 2] S (some (aI q.1)) q.2 := by
  refine met_of hI "TickPools$Tape" rfl (by decide +kernel) (Nat.le_of_ble_eq_true rfl) (fun X hX C hr => ?_)
  unfold f_X9_readWord at hf
  show ZZ X Γ 1 _ S 0 [(0, aR 2)] []
  refine z_aload_n (j := 0) C d_X9_readWord_0 rfl ?_
  obtain ⟨q1, hF, hf⟩ := bd hf
  refine z_callV1 (rest := []) C [] rfl (by decide) rfl rfl k_X9_peek tw_525 ⟨by decide, by decide⟩ (Nat.le_of_ble_eq_true rfl) d_X9_readWord_1 (c_X9_peek C.inj hF) rfl ?_
  refine z_pop C d_X9_readWord_4 rfl ?_
  refine z_aload_n (j := 0) C d_X9_readWord_5 rfl ?_
  refine z_aload_n (j := 0) C d_X9_readWord_6 rfl ?_
  refine zg_X9_at C rfl tw_43 d_X9_readWord_7 ?_
  refine zp_X9_wordStart C rfl tw_41 d_X9_readWord_10 ?_
  exact z_sub [0] rfl (t_X9_readWord_13 C hr  100000 _ hf)
theorem d_X9_wordIs_0 : decode cX9_wordIs 0 = .ok (.aload_n 1, 1) := by decide +kernel
theorem d_X9_wordIs_1 : decode cX9_wordIs 1 = .ok (.invokevirtual 43, 3) := by decide +kernel
theorem d_X9_wordIs_4 : decode cX9_wordIs 4 = .ok (.aload_n 0, 1) := by decide +kernel
theorem d_X9_wordIs_5 : decode cX9_wordIs 5 = .ok (.getfield 40, 3) := by decide +kernel
theorem d_X9_wordIs_8 : decode cX9_wordIs 8 = .ok (.aload_n 0, 1) := by decide +kernel
theorem d_X9_wordIs_9 : decode cX9_wordIs 9 = .ok (.getfield 37, 3) := by decide +kernel
theorem d_X9_wordIs_12 : decode cX9_wordIs 12 = .ok (.isub, 1) := by decide +kernel
theorem d_X9_wordIs_13 : decode cX9_wordIs 13 = .ok (.if_icmp .ne 7, 3) := by decide +kernel
theorem d_X9_wordIs_16 : decode cX9_wordIs 16 = .ok (.iconst 1, 1) := by decide +kernel
theorem d_X9_wordIs_17 : decode cX9_wordIs 17 = .ok (.goto 4, 3) := by decide +kernel
theorem d_X9_wordIs_20 : decode cX9_wordIs 20 = .ok (.iconst 0, 1) := by decide +kernel
theorem d_X9_wordIs_21 : decode cX9_wordIs 21 = .ok (.istore_n 2, 1) := by decide +kernel
theorem d_X9_wordIs_22 : decode cX9_wordIs 22 = .ok (.iconst 0, 1) := by decide +kernel
theorem d_X9_wordIs_23 : decode cX9_wordIs 23 = .ok (.istore_n 3, 1) := by decide +kernel
theorem d_X9_wordIs_24 : decode cX9_wordIs 24 = .ok (.iload_n 2, 1) := by decide +kernel
theorem d_X9_wordIs_25 : decode cX9_wordIs 25 = .ok (.ifCond .eq 41, 3) := by decide +kernel
theorem d_X9_wordIs_28 : decode cX9_wordIs 28 = .ok (.iload_n 3, 1) := by decide +kernel
theorem d_X9_wordIs_29 : decode cX9_wordIs 29 = .ok (.aload_n 1, 1) := by decide +kernel
theorem d_X9_wordIs_30 : decode cX9_wordIs 30 = .ok (.invokevirtual 43, 3) := by decide +kernel
theorem d_X9_wordIs_33 : decode cX9_wordIs 33 = .ok (.if_icmp .ge 33, 3) := by decide +kernel
theorem d_X9_wordIs_36 : decode cX9_wordIs 36 = .ok (.aload_n 0, 1) := by decide +kernel
theorem d_X9_wordIs_37 : decode cX9_wordIs 37 = .ok (.aload_n 0, 1) := by decide +kernel
theorem d_X9_wordIs_38 : decode cX9_wordIs 38 = .ok (.getfield 37, 3) := by decide +kernel
theorem d_X9_wordIs_41 : decode cX9_wordIs 41 = .ok (.iload_n 3, 1) := by decide +kernel
theorem d_X9_wordIs_42 : decode cX9_wordIs 42 = .ok (.iadd, 1) := by decide +kernel
theorem d_X9_wordIs_43 : decode cX9_wordIs 43 = .ok (.invokevirtual 25, 3) := by decide +kernel
theorem d_X9_wordIs_46 : decode cX9_wordIs 46 = .ok (.aload_n 1, 1) := by decide +kernel
theorem d_X9_wordIs_47 : decode cX9_wordIs 47 = .ok (.iload_n 3, 1) := by decide +kernel
theorem d_X9_wordIs_48 : decode cX9_wordIs 48 = .ok (.invokevirtual 47, 3) := by decide +kernel
theorem d_X9_wordIs_51 : decode cX9_wordIs 51 = .ok (.if_icmp .ne 7, 3) := by decide +kernel
theorem d_X9_wordIs_54 : decode cX9_wordIs 54 = .ok (.iconst 1, 1) := by decide +kernel
theorem d_X9_wordIs_55 : decode cX9_wordIs 55 = .ok (.goto 4, 3) := by decide +kernel
theorem d_X9_wordIs_58 : decode cX9_wordIs 58 = .ok (.iconst 0, 1) := by decide +kernel
theorem d_X9_wordIs_59 : decode cX9_wordIs 59 = .ok (.istore_n 2, 1) := by decide +kernel
theorem d_X9_wordIs_60 : decode cX9_wordIs 60 = .ok (.iinc 3 1, 3) := by decide +kernel
theorem d_X9_wordIs_63 : decode cX9_wordIs 63 = .ok (.goto (-39), 3) := by decide +kernel
theorem d_X9_wordIs_66 : decode cX9_wordIs 66 = .ok (.iload_n 2, 1) := by decide +kernel
theorem d_X9_wordIs_67 : decode cX9_wordIs 67 = .ok (.ireturn, 1) := by decide +kernel
def f_X9_wordIs_59 (k24 : Nat → Int32 → Int32 → Mem → Option (Int32 × Mem)) (v1 : Nat) (v3 : Int32) (s0 : Int32) (S : Mem) : Option (Int32 × Mem) := (k24 v1 s0 (v3 + 1) S)
set_option maxRecDepth 20000 in
theorem t_X9_wordIs_59 {X : MC} {Γ : GG} (C : CX X Γ cX9_wordIs 4 "TickPools$Tape" 4 85) (hr : X.2.2.2.2.2.2.2.2.1.sig.returnType = some .boolean) {k24 : Nat → Int32 → Int32 → Mem → Option (Int32 × Mem)} {q : Int32 × Mem} (hk24 : ∀ (v1 : Nat) (v2 : Int32) (v3 : Int32) (S : Mem), k24 v1 v2 v3 S = some q → ZZ X Γ 4 (QQ X Γ (some (aI q.1)) q.2) S 24 [(0, aR 2), (1, aR v1), (2, aI v2), (3, aI v3)] []) (v1 : Nat) (v3 : Int32) (s0 : Int32) (S : Mem) (hf : f_X9_wordIs_59 k24 v1 v3 s0 S = some q) : ZZ X Γ 4 (QQ X Γ (some (aI q.1)) q.2) S 59 [(0, aR 2), (1, aR v1), (3, aI v3)] [aI s0] := by
  unfold f_X9_wordIs_59 at hf
  refine z_istore_n (lv' := [(2, aI s0), (0, aR 2), (1, aR v1), (3, aI v3)]) C d_X9_wordIs_59 (by decide) rfl ?_
  refine z_iinc (j := 3) (v := (v3 + 1)) (lv' := [(3, aI (v3 + 1)), (2, aI s0), (0, aR 2), (1, aR v1)]) C d_X9_wordIs_60 rfl rfl (by decide) rfl ?_
  refine z_goto (tgt := 24) C d_X9_wordIs_63 (by decide) ?_
  exact z_sub [2, 3, 1, 0] rfl (hk24 _ _ _ _ hf)
def f_X9_wordIs_66 (v2 : Int32) (S : Mem) : Option (Int32 × Mem) := (if isB v2 = true then (some (v2, S)) else none)
set_option maxRecDepth 20000 in
theorem t_X9_wordIs_66 {X : MC} {Γ : GG} (C : CX X Γ cX9_wordIs 4 "TickPools$Tape" 4 85) (hr : X.2.2.2.2.2.2.2.2.1.sig.returnType = some .boolean) {q : Int32 × Mem} (v2 : Int32) (S : Mem) (hf : f_X9_wordIs_66 v2 S = some q) : ZZ X Γ 4 (QQ X Γ (some (aI q.1)) q.2) S 66 [(2, aI v2)] [] := by
  unfold f_X9_wordIs_66 at hf
  refine z_iload_n (j := 0) C d_X9_wordIs_66 rfl ?_
  obtain ⟨hb67_0, hf⟩ := gd hf
  exact r_i C hr (isB_nar hb67_0).1 d_X9_wordIs_67 hf
def f_X9_wordIs_24B (k24 : Nat → Int32 → Int32 → Mem → Option (Int32 × Mem)) (v1 : Nat) (v2 : Int32) (v3 : Int32) (S : Mem) : Option (Int32 × Mem) := (if v2 = 0 then (f_X9_wordIs_66  v2 S) else (if isS v1 = true then (if (Int32.ofNat (strN v1)) ≤ v3 then (f_X9_wordIs_66  v2 S) else ((f_X9_byteAt ((gI S 2 3) + v3) S).bind fun q43 => (if inb v3 (strN v1) = true then (if q43.1 = (strC v1 ((v3 : Int32).toNatClampNeg)) then (f_X9_wordIs_59 k24 v1 v3 1 q43.2) else (f_X9_wordIs_59 k24 v1 v3 0 q43.2)) else none))) else none))
set_option maxRecDepth 20000 in
theorem t_X9_wordIs_24B {X : MC} {Γ : GG} (C : CX X Γ cX9_wordIs 4 "TickPools$Tape" 4 85) (hr : X.2.2.2.2.2.2.2.2.1.sig.returnType = some .boolean) {k24 : Nat → Int32 → Int32 → Mem → Option (Int32 × Mem)} {q : Int32 × Mem} (hk24 : ∀ (v1 : Nat) (v2 : Int32) (v3 : Int32) (S : Mem), k24 v1 v2 v3 S = some q → ZZ X Γ 4 (QQ X Γ (some (aI q.1)) q.2) S 24 [(0, aR 2), (1, aR v1), (2, aI v2), (3, aI v3)] []) (v1 : Nat) (v2 : Int32) (v3 : Int32) (S : Mem) (hf : f_X9_wordIs_24B k24 v1 v2 v3 S = some q) : ZZ X Γ 4 (QQ X Γ (some (aI q.1)) q.2) S 24 [(0, aR 2), (1, aR v1), (2, aI v2), (3, aI v3)] [] := by
  unfold f_X9_wordIs_24B at hf
  refine z_iload_n (j := 2) C d_X9_wordIs_24 rfl ?_
  refine z_if_eq (tgt := 66) C d_X9_wordIs_25 (by decide) hf (fun c25 hf => ?_) (fun c25 hf => ?_)
  · exact z_sub [2] rfl (t_X9_wordIs_66 C hr  _ _ hf)
  · refine z_iload_n (j := 3) C d_X9_wordIs_28 rfl ?_
    refine z_aload_n (j := 1) C d_X9_wordIs_29 rfl ?_
    obtain ⟨hs30, hf⟩ := gd hf
    refine z_callStr (rest := [aI v3]) C [] hs30 rfl kJ_length tw_542 ⟨by decide, by decide⟩ (Nat.le_of_ble_eq_true rfl) d_X9_wordIs_30 (cJ_length C.inj hs30) rfl ?_
    refine z_icmp_ge (tgt := 66) C d_X9_wordIs_33 (by decide) hf (fun c33 hf => ?_) (fun c33 hf => ?_)
    · exact z_sub [2] rfl (t_X9_wordIs_66 C hr  _ _ hf)
    · refine z_aload_n (j := 0) C d_X9_wordIs_36 rfl ?_
      refine z_aload_n (j := 0) C d_X9_wordIs_37 rfl ?_
      refine zg_X9_wordStart C rfl tw_41 d_X9_wordIs_38 ?_
      refine z_iload_n (j := 3) C d_X9_wordIs_41 rfl ?_
      refine z_iadd C d_X9_wordIs_42 ?_
      obtain ⟨q43, hF, hf⟩ := bd hf
      refine z_callV1 (rest := []) C [aI ((gI S 2 3) + v3)] rfl (by decide) rfl rfl k_X9_byteAt tw_529 ⟨by decide, by decide⟩ (Nat.le_of_ble_eq_true rfl) d_X9_wordIs_43 (c_X9_byteAt C.inj hF) rfl ?_
      refine z_aload_n (j := 1) C d_X9_wordIs_46 rfl ?_
      refine z_iload_n (j := 3) C d_X9_wordIs_47 rfl ?_
      obtain ⟨hi48, hf⟩ := gd hf
      refine z_callStr (rest := [aI q43.1]) C [aI v3] hs30 rfl kJ_charAt tw_552 ⟨by decide, by decide⟩ (Nat.le_of_ble_eq_true rfl) d_X9_wordIs_48 (cJ_charAt C.inj hs30 hi48) rfl ?_
      refine z_icmp_ne (tgt := 58) C d_X9_wordIs_51 (by decide) hf (fun c51 hf => ?_) (fun c51 hf => ?_)
      · refine z_iconst (v := 0) C d_X9_wordIs_58 (by decide) ?_
        exact z_sub [0, 1, 3] rfl (t_X9_wordIs_59 C hr hk24 _ _ _ _ hf)
      · refine z_iconst (v := 1) C d_X9_wordIs_54 (by decide) ?_
        refine z_goto (tgt := 59) C d_X9_wordIs_55 (by decide) ?_
        exact z_sub [0, 1, 3] rfl (t_X9_wordIs_59 C hr hk24 _ _ _ _ hf)
def f_X9_wordIs_24 : Nat → Nat → Int32 → Int32 → Mem → Option (Int32 × Mem)
  | 0 => fun _ _ _ _ => none
  | n + 1 => f_X9_wordIs_24B (f_X9_wordIs_24 n)
theorem t_X9_wordIs_24 {X : MC} {Γ : GG} (C : CX X Γ cX9_wordIs 4 "TickPools$Tape" 4 85) (hr : X.2.2.2.2.2.2.2.2.1.sig.returnType = some .boolean) {q : Int32 × Mem} : ∀ (n : Nat) (v1 : Nat) (v2 : Int32) (v3 : Int32) (S : Mem) (hf : f_X9_wordIs_24 n v1 v2 v3 S = some q), ZZ X Γ 4 (QQ X Γ (some (aI q.1)) q.2) S 24 [(0, aR 2), (1, aR v1), (2, aI v2), (3, aI v3)] []
  | 0, _, _, _, _, hf => nomatch (show (none : Option (Int32 × Mem)) = some q from hf)
  | n + 1, v1, v2, v3, S, hf => t_X9_wordIs_24B C hr (t_X9_wordIs_24 C hr n) v1 v2 v3 S hf
def f_X9_wordIs_21 (v1 : Nat) (s0 : Int32) (S : Mem) : Option (Int32 × Mem) := (f_X9_wordIs_24  100000 v1 s0 0 S)
set_option maxRecDepth 20000 in
theorem t_X9_wordIs_21 {X : MC} {Γ : GG} (C : CX X Γ cX9_wordIs 4 "TickPools$Tape" 4 85) (hr : X.2.2.2.2.2.2.2.2.1.sig.returnType = some .boolean) {q : Int32 × Mem} (v1 : Nat) (s0 : Int32) (S : Mem) (hf : f_X9_wordIs_21 v1 s0 S = some q) : ZZ X Γ 4 (QQ X Γ (some (aI q.1)) q.2) S 21 [(0, aR 2), (1, aR v1)] [aI s0] := by
  unfold f_X9_wordIs_21 at hf
  refine z_istore_n (lv' := [(2, aI s0), (0, aR 2), (1, aR v1)]) C d_X9_wordIs_21 (by decide) rfl ?_
  refine z_iconst (v := 0) C d_X9_wordIs_22 (by decide) ?_
  refine z_istore_n (lv' := [(3, aI 0), (2, aI s0), (0, aR 2), (1, aR v1)]) C d_X9_wordIs_23 (by decide) rfl ?_
  exact z_sub [2, 3, 1, 0] rfl (t_X9_wordIs_24 C hr  100000 _ _ _ _ hf)
/-- TickPools$Tape.wordIs(Ljava/lang/String;)Z -/
def f_X9_wordIs (p1 : Nat) (S : Mem) : Option (Int32 × Mem) := (if isS p1 = true then (if (Int32.ofNat (strN p1)) = ((gI S 2 4) - (gI S 2 3)) then (f_X9_wordIs_21  p1 1 S) else (f_X9_wordIs_21  p1 0 S)) else none)
set_option maxRecDepth 20000 in
theorem c_X9_wordIs {l : Launch} {Γ : GG} (hI : Inj Γ) {p1 : Nat} {S : Mem} {q : Int32 × Mem} (hf : f_X9_wordIs p1 S = some q) : MM l Γ yX9_wordIs cX9_wordIs 4 (some .boolean) 4 85 [aR 2, aR p1] S (some (aI q.1)) q.2 := by
  refine met_of hI "TickPools$Tape" rfl (by decide +kernel) (Nat.le_of_ble_eq_true rfl) (fun X hX C hr => ?_)
  unfold f_X9_wordIs at hf
  show ZZ X Γ 4 _ S 0 [(0, aR 2), (1, aR p1)] []
  refine z_aload_n (j := 1) C d_X9_wordIs_0 rfl ?_
  obtain ⟨hs1, hf⟩ := gd hf
  refine z_callStr (rest := []) C [] hs1 rfl kJ_length tw_542 ⟨by decide, by decide⟩ (Nat.le_of_ble_eq_true rfl) d_X9_wordIs_1 (cJ_length C.inj hs1) rfl ?_
  refine z_aload_n (j := 0) C d_X9_wordIs_4 rfl ?_
  refine zg_X9_wordEnd C rfl tw_42 d_X9_wordIs_5 ?_
  refine z_aload_n (j := 0) C d_X9_wordIs_8 rfl ?_
  refine zg_X9_wordStart C rfl tw_41 d_X9_wordIs_9 ?_
  refine z_isub C d_X9_wordIs_12 ?_
  refine z_icmp_ne (tgt := 20) C d_X9_wordIs_13 (by decide) hf (fun c13 hf => ?_) (fun c13 hf => ?_)
  · refine z_iconst (v := 0) C d_X9_wordIs_20 (by decide) ?_
    exact z_sub [0, 1] rfl (t_X9_wordIs_21 C hr  _ _ _ hf)
  · refine z_iconst (v := 1) C d_X9_wordIs_16 (by decide) ?_
    refine z_goto (tgt := 21) C d_X9_wordIs_17 (by decide) ?_
    exact z_sub [0, 1] rfl (t_X9_wordIs_21 C hr  _ _ _ hf)
theorem d_X9_blameWord_0 : decode cX9_blameWord 0 = .ok (.aload_n 0, 1) := by decide +kernel
theorem d_X9_blameWord_1 : decode cX9_blameWord 1 = .ok (.aload_n 0, 1) := by decide +kernel
theorem d_X9_blameWord_2 : decode cX9_blameWord 2 = .ok (.getfield 37, 3) := by decide +kernel
theorem d_X9_blameWord_5 : decode cX9_blameWord 5 = .ok (.iload_n 1, 1) := by decide +kernel
theorem d_X9_blameWord_6 : decode cX9_blameWord 6 = .ok (.invokevirtual 33, 3) := by decide +kernel
theorem d_X9_blameWord_9 : decode cX9_blameWord 9 = .ok (.ireturn, 1) := by decide +kernel
/-- TickPools$Tape.blameWord(I)Z -/
def f_X9_blameWord (p1 : Int32) (S : Mem) : Option (Int32 × Mem) := ((f_X9_blame (gI S 2 3) p1 S).bind fun q6 => (if isB q6.1 = true then (some (q6.1, q6.2)) else none))
set_option maxRecDepth 20000 in
theorem c_X9_blameWord {l : Launch} {Γ : GG} (hI : Inj Γ) {p1 : Int32} {S : Mem} {q : Int32 × Mem} (hf : f_X9_blameWord p1 S = some q) : MM l Γ yX9_blameWord cX9_blameWord 2 (some .boolean) 1 22 [aR 2, aI p1] S (some (aI q.1)) q.2 := by
  refine met_of hI "TickPools$Tape" rfl (by decide +kernel) (Nat.le_of_ble_eq_true rfl) (fun X hX C hr => ?_)
  unfold f_X9_blameWord at hf
  show ZZ X Γ 2 _ S 0 [(0, aR 2), (1, aI p1)] []
  refine z_aload_n (j := 0) C d_X9_blameWord_0 rfl ?_
  refine z_aload_n (j := 0) C d_X9_blameWord_1 rfl ?_
  refine zg_X9_wordStart C rfl tw_41 d_X9_blameWord_2 ?_
  refine z_iload_n (j := 1) C d_X9_blameWord_5 rfl ?_
  obtain ⟨q6, hF, hf⟩ := bd hf
  refine z_callV1 (rest := []) C [aI (gI S 2 3), aI p1] rfl (by decide) rfl rfl k_X9_blame tw_533 ⟨by decide, by decide⟩ (Nat.le_of_ble_eq_true rfl) d_X9_blameWord_6 (c_X9_blame C.inj hF) rfl ?_
  obtain ⟨hb9_1, hf⟩ := gd hf
  exact r_i C hr (isB_nar hb9_1).1 d_X9_blameWord_9 hf
theorem d_X9_isDigit_0 : decode cX9_isDigit 0 = .ok (.iload_n 0, 1) := by decide +kernel
theorem d_X9_isDigit_1 : decode cX9_isDigit 1 = .ok (.bipush 48, 2) := by decide +kernel
theorem d_X9_isDigit_3 : decode cX9_isDigit 3 = .ok (.if_icmp .lt 13, 3) := by decide +kernel
theorem d_X9_isDigit_6 : decode cX9_isDigit 6 = .ok (.iload_n 0, 1) := by decide +kernel
theorem d_X9_isDigit_7 : decode cX9_isDigit 7 = .ok (.bipush 57, 2) := by decide +kernel
theorem d_X9_isDigit_9 : decode cX9_isDigit 9 = .ok (.if_icmp .gt 7, 3) := by decide +kernel
theorem d_X9_isDigit_12 : decode cX9_isDigit 12 = .ok (.iconst 1, 1) := by decide +kernel
theorem d_X9_isDigit_13 : decode cX9_isDigit 13 = .ok (.goto 4, 3) := by decide +kernel
theorem d_X9_isDigit_16 : decode cX9_isDigit 16 = .ok (.iconst 0, 1) := by decide +kernel
theorem d_X9_isDigit_17 : decode cX9_isDigit 17 = .ok (.ireturn, 1) := by decide +kernel
def f_X9_isDigit_17 (s0 : Int32) (S : Mem) : Option (Int32 × Mem) := (if isB s0 = true then (some (s0, S)) else none)
set_option maxRecDepth 20000 in
theorem t_X9_isDigit_17 {X : MC} {Γ : GG} (C : CX X Γ cX9_isDigit 1 "TickPools$Tape" 0 0) (hr : X.2.2.2.2.2.2.2.2.1.sig.returnType = some .boolean) {q : Int32 × Mem} (s0 : Int32) (S : Mem) (hf : f_X9_isDigit_17 s0 S = some q) : ZZ X Γ 1 (QQ X Γ (some (aI q.1)) q.2) S 17 [] [aI s0] := by
  unfold f_X9_isDigit_17 at hf
  obtain ⟨hb17_0, hf⟩ := gd hf
  exact r_i C hr (isB_nar hb17_0).1 d_X9_isDigit_17 hf
def f_X9_isDigit_16 (S : Mem) : Option (Int32 × Mem) := (f_X9_isDigit_17  0 S)
set_option maxRecDepth 20000 in
theorem t_X9_isDigit_16 {X : MC} {Γ : GG} (C : CX X Γ cX9_isDigit 1 "TickPools$Tape" 0 0) (hr : X.2.2.2.2.2.2.2.2.1.sig.returnType = some .boolean) {q : Int32 × Mem} (S : Mem) (hf : f_X9_isDigit_16 S = some q) : ZZ X Γ 1 (QQ X Γ (some (aI q.1)) q.2) S 16 [] [] := by
  unfold f_X9_isDigit_16 at hf
  refine z_iconst (v := 0) C d_X9_isDigit_16 (by decide) ?_
  exact z_sub [] rfl (t_X9_isDigit_17 C hr  _ _ hf)
/-- TickPools$Tape.isDigit(I)Z -/
def f_X9_isDigit (p0 : Int32) (S : Mem) : Option (Int32 × Mem) := (if p0 < 48 then (f_X9_isDigit_16  S) else (if 57 < p0 then (f_X9_isDigit_16  S) else (f_X9_isDigit_17  1 S)))
set_option maxRecDepth 20000 in
theorem c_X9_isDigit {l : Launch} {Γ : GG} (hI : Inj Γ) {p0 : Int32} {S : Mem} {q : Int32 × Mem} (hf : f_X9_isDigit p0 S = some q) : MM l Γ yX9_isDigit cX9_isDigit 1 (some .boolean) 0 0 [aI p0] S (some (aI q.1)) q.2 := by
  refine met_of hI "TickPools$Tape" rfl (by decide +kernel) (Nat.le_of_ble_eq_true rfl) (fun X hX C hr => ?_)
  unfold f_X9_isDigit at hf
  show ZZ X Γ 1 _ S 0 [(0, aI p0)] []
  refine z_iload_n (j := 0) C d_X9_isDigit_0 rfl ?_
  refine z_bipush (v := 48) C d_X9_isDigit_1 (by decide) ?_
  refine z_icmp_lt (tgt := 16) C d_X9_isDigit_3 (by decide) hf (fun c3 hf => ?_) (fun c3 hf => ?_)
  · exact z_sub [] rfl (t_X9_isDigit_16 C hr  _ hf)
  · refine z_iload_n (j := 0) C d_X9_isDigit_6 rfl ?_
    refine z_bipush (v := 57) C d_X9_isDigit_7 (by decide) ?_
    refine z_icmp_gt (tgt := 16) C d_X9_isDigit_9 (by decide) hf (fun c9 hf => ?_) (fun c9 hf => ?_)
    · exact z_sub [] rfl (t_X9_isDigit_16 C hr  _ hf)
    · refine z_iconst (v := 1) C d_X9_isDigit_12 (by decide) ?_
      refine z_goto (tgt := 17) C d_X9_isDigit_13 (by decide) ?_
      exact z_sub [] rfl (t_X9_isDigit_17 C hr  _ _ hf)
theorem d_X9_readNumber_0 : decode cX9_readNumber 0 = .ok (.aload_n 0, 1) := by decide +kernel
theorem d_X9_readNumber_1 : decode cX9_readNumber 1 = .ok (.invokevirtual 29, 3) := by decide +kernel
theorem d_X9_readNumber_4 : decode cX9_readNumber 4 = .ok (.pop, 1) := by decide +kernel
theorem d_X9_readNumber_5 : decode cX9_readNumber 5 = .ok (.aload_n 0, 1) := by decide +kernel
theorem d_X9_readNumber_6 : decode cX9_readNumber 6 = .ok (.getfield 19, 3) := by decide +kernel
theorem d_X9_readNumber_9 : decode cX9_readNumber 9 = .ok (.istore_n 3, 1) := by decide +kernel
theorem d_X9_readNumber_10 : decode cX9_readNumber 10 = .ok (.aload_n 0, 1) := by decide +kernel
theorem d_X9_readNumber_11 : decode cX9_readNumber 11 = .ok (.iconst 0, 1) := by decide +kernel
theorem d_X9_readNumber_12 : decode cX9_readNumber 12 = .ok (.putfield 51, 3) := by decide +kernel
theorem d_X9_readNumber_15 : decode cX9_readNumber 15 = .ok (.aload_n 0, 1) := by decide +kernel
theorem d_X9_readNumber_16 : decode cX9_readNumber 16 = .ok (.getfield 19, 3) := by decide +kernel
theorem d_X9_readNumber_19 : decode cX9_readNumber 19 = .ok (.aload_n 0, 1) := by decide +kernel
theorem d_X9_readNumber_20 : decode cX9_readNumber 20 = .ok (.getfield 15, 3) := by decide +kernel
theorem d_X9_readNumber_23 : decode cX9_readNumber 23 = .ok (.if_icmp .ge 71, 3) := by decide +kernel
theorem d_X9_readNumber_26 : decode cX9_readNumber 26 = .ok (.aload_n 0, 1) := by decide +kernel
theorem d_X9_readNumber_27 : decode cX9_readNumber 27 = .ok (.aload_n 0, 1) := by decide +kernel
theorem d_X9_readNumber_28 : decode cX9_readNumber 28 = .ok (.getfield 19, 3) := by decide +kernel
theorem d_X9_readNumber_31 : decode cX9_readNumber 31 = .ok (.invokevirtual 25, 3) := by decide +kernel
theorem d_X9_readNumber_34 : decode cX9_readNumber 34 = .ok (.invokestatic 54, 3) := by decide +kernel
theorem d_X9_readNumber_37 : decode cX9_readNumber 37 = .ok (.ifCond .eq 57, 3) := by decide +kernel
theorem d_X9_readNumber_40 : decode cX9_readNumber 40 = .ok (.aload_n 0, 1) := by decide +kernel
theorem d_X9_readNumber_41 : decode cX9_readNumber 41 = .ok (.aload_n 0, 1) := by decide +kernel
theorem d_X9_readNumber_42 : decode cX9_readNumber 42 = .ok (.getfield 19, 3) := by decide +kernel
theorem d_X9_readNumber_45 : decode cX9_readNumber 45 = .ok (.iload_n 3, 1) := by decide +kernel
theorem d_X9_readNumber_46 : decode cX9_readNumber 46 = .ok (.isub, 1) := by decide +kernel
theorem d_X9_readNumber_47 : decode cX9_readNumber 47 = .ok (.bipush 7, 2) := by decide +kernel
theorem d_X9_readNumber_49 : decode cX9_readNumber 49 = .ok (.if_icmp .ge 25, 3) := by decide +kernel
theorem d_X9_readNumber_52 : decode cX9_readNumber 52 = .ok (.aload_n 0, 1) := by decide +kernel
theorem d_X9_readNumber_53 : decode cX9_readNumber 53 = .ok (.getfield 51, 3) := by decide +kernel
theorem d_X9_readNumber_56 : decode cX9_readNumber 56 = .ok (.bipush 10, 2) := by decide +kernel
theorem d_X9_readNumber_58 : decode cX9_readNumber 58 = .ok (.imul, 1) := by decide +kernel
theorem d_X9_readNumber_59 : decode cX9_readNumber 59 = .ok (.aload_n 0, 1) := by decide +kernel
theorem d_X9_readNumber_60 : decode cX9_readNumber 60 = .ok (.aload_n 0, 1) := by decide +kernel
theorem d_X9_readNumber_61 : decode cX9_readNumber 61 = .ok (.getfield 19, 3) := by decide +kernel
theorem d_X9_readNumber_64 : decode cX9_readNumber 64 = .ok (.invokevirtual 25, 3) := by decide +kernel
theorem d_X9_readNumber_67 : decode cX9_readNumber 67 = .ok (.iadd, 1) := by decide +kernel
theorem d_X9_readNumber_68 : decode cX9_readNumber 68 = .ok (.bipush 48, 2) := by decide +kernel
theorem d_X9_readNumber_70 : decode cX9_readNumber 70 = .ok (.isub, 1) := by decide +kernel
theorem d_X9_readNumber_71 : decode cX9_readNumber 71 = .ok (.goto 7, 3) := by decide +kernel
theorem d_X9_readNumber_74 : decode cX9_readNumber 74 = .ok (.aload_n 0, 1) := by decide +kernel
theorem d_X9_readNumber_75 : decode cX9_readNumber 75 = .ok (.getfield 51, 3) := by decide +kernel
theorem d_X9_readNumber_78 : decode cX9_readNumber 78 = .ok (.putfield 51, 3) := by decide +kernel
theorem d_X9_readNumber_81 : decode cX9_readNumber 81 = .ok (.aload_n 0, 1) := by decide +kernel
theorem d_X9_readNumber_82 : decode cX9_readNumber 82 = .ok (.dup, 1) := by decide +kernel
theorem d_X9_readNumber_83 : decode cX9_readNumber 83 = .ok (.getfield 19, 3) := by decide +kernel
theorem d_X9_readNumber_86 : decode cX9_readNumber 86 = .ok (.iconst 1, 1) := by decide +kernel
theorem d_X9_readNumber_87 : decode cX9_readNumber 87 = .ok (.iadd, 1) := by decide +kernel
theorem d_X9_readNumber_88 : decode cX9_readNumber 88 = .ok (.putfield 19, 3) := by decide +kernel
theorem d_X9_readNumber_91 : decode cX9_readNumber 91 = .ok (.goto (-76), 3) := by decide +kernel
theorem d_X9_readNumber_94 : decode cX9_readNumber 94 = .ok (.aload_n 0, 1) := by decide +kernel
theorem d_X9_readNumber_95 : decode cX9_readNumber 95 = .ok (.getfield 19, 3) := by decide +kernel
theorem d_X9_readNumber_98 : decode cX9_readNumber 98 = .ok (.iload_n 3, 1) := by decide +kernel
theorem d_X9_readNumber_99 : decode cX9_readNumber 99 = .ok (.if_icmp .ne 10, 3) := by decide +kernel
theorem d_X9_readNumber_102 : decode cX9_readNumber 102 = .ok (.aload_n 0, 1) := by decide +kernel
theorem d_X9_readNumber_103 : decode cX9_readNumber 103 = .ok (.iload_n 3, 1) := by decide +kernel
theorem d_X9_readNumber_104 : decode cX9_readNumber 104 = .ok (.iconst 0, 1) := by decide +kernel
theorem d_X9_readNumber_105 : decode cX9_readNumber 105 = .ok (.invokevirtual 33, 3) := by decide +kernel
theorem d_X9_readNumber_108 : decode cX9_readNumber 108 = .ok (.ireturn, 1) := by decide +kernel
theorem d_X9_readNumber_109 : decode cX9_readNumber 109 = .ok (.aload_n 0, 1) := by decide +kernel
theorem d_X9_readNumber_110 : decode cX9_readNumber 110 = .ok (.getfield 19, 3) := by decide +kernel
theorem d_X9_readNumber_113 : decode cX9_readNumber 113 = .ok (.iload_n 3, 1) := by decide +kernel
theorem d_X9_readNumber_114 : decode cX9_readNumber 114 = .ok (.isub, 1) := by decide +kernel
theorem d_X9_readNumber_115 : decode cX9_readNumber 115 = .ok (.bipush 7, 2) := by decide +kernel
theorem d_X9_readNumber_117 : decode cX9_readNumber 117 = .ok (.if_icmp .gt 23, 3) := by decide +kernel
theorem d_X9_readNumber_120 : decode cX9_readNumber 120 = .ok (.aload_n 0, 1) := by decide +kernel
theorem d_X9_readNumber_121 : decode cX9_readNumber 121 = .ok (.getfield 51, 3) := by decide +kernel
theorem d_X9_readNumber_124 : decode cX9_readNumber 124 = .ok (.iload_n 1, 1) := by decide +kernel
theorem d_X9_readNumber_125 : decode cX9_readNumber 125 = .ok (.if_icmp .lt 15, 3) := by decide +kernel
theorem d_X9_readNumber_128 : decode cX9_readNumber 128 = .ok (.aload_n 0, 1) := by decide +kernel
theorem d_X9_readNumber_129 : decode cX9_readNumber 129 = .ok (.getfield 51, 3) := by decide +kernel
theorem d_X9_readNumber_132 : decode cX9_readNumber 132 = .ok (.iload_n 2, 1) := by decide +kernel
theorem d_X9_readNumber_133 : decode cX9_readNumber 133 = .ok (.if_icmp .gt 7, 3) := by decide +kernel
theorem d_X9_readNumber_136 : decode cX9_readNumber 136 = .ok (.iconst 1, 1) := by decide +kernel
theorem d_X9_readNumber_137 : decode cX9_readNumber 137 = .ok (.goto 4, 3) := by decide +kernel
theorem d_X9_readNumber_140 : decode cX9_readNumber 140 = .ok (.iconst 0, 1) := by decide +kernel
theorem d_X9_readNumber_141 : decode cX9_readNumber 141 = .ok (.istore 4, 2) := by decide +kernel
theorem d_X9_readNumber_143 : decode cX9_readNumber 143 = .ok (.iload 4, 2) := by decide +kernel
theorem d_X9_readNumber_145 : decode cX9_readNumber 145 = .ok (.ifCond .ne 12, 3) := by decide +kernel
theorem d_X9_readNumber_148 : decode cX9_readNumber 148 = .ok (.aload_n 0, 1) := by decide +kernel
theorem d_X9_readNumber_149 : decode cX9_readNumber 149 = .ok (.iload_n 3, 1) := by decide +kernel
theorem d_X9_readNumber_150 : decode cX9_readNumber 150 = .ok (.iconst 1, 1) := by decide +kernel
theorem d_X9_readNumber_151 : decode cX9_readNumber 151 = .ok (.invokevirtual 33, 3) := by decide +kernel
theorem d_X9_readNumber_154 : decode cX9_readNumber 154 = .ok (.ifCond .eq 7, 3) := by decide +kernel
theorem d_X9_readNumber_157 : decode cX9_readNumber 157 = .ok (.iconst 1, 1) := by decide +kernel
theorem d_X9_readNumber_158 : decode cX9_readNumber 158 = .ok (.goto 4, 3) := by decide +kernel
theorem d_X9_readNumber_161 : decode cX9_readNumber 161 = .ok (.iconst 0, 1) := by decide +kernel
theorem d_X9_readNumber_162 : decode cX9_readNumber 162 = .ok (.ireturn, 1) := by decide +kernel
def f_X9_readNumber_78 (k15 : Int32 → Int32 → Int32 → Mem → Option (Int32 × Mem)) (v1 : Int32) (v2 : Int32) (v3 : Int32) (s0 : Int32) (S : Mem) : Option (Int32 × Mem) := (k15 v1 v2 v3 (sI (sI S 2 2 s0) 2 5 ((gI (sI S 2 2 s0) 2 5) + 1)))
set_option maxRecDepth 20000 in
theorem t_X9_readNumber_78 {X : MC} {Γ : GG} (C : CX X Γ cX9_readNumber 5 "TickPools$Tape" 2 41) (hr : X.2.2.2.2.2.2.2.2.1.sig.returnType = some .boolean) {k15 : Int32 → Int32 → Int32 → Mem → Option (Int32 × Mem)} {q : Int32 × Mem} (hk15 : ∀ (v1 : Int32) (v2 : Int32) (v3 : Int32) (S : Mem), k15 v1 v2 v3 S = some q → ZZ X Γ 5 (QQ X Γ (some (aI q.1)) q.2) S 15 [(0, aR 2), (1, aI v1), (2, aI v2), (3, aI v3)] []) (v1 : Int32) (v2 : Int32) (v3 : Int32) (s0 : Int32) (S : Mem) (hf : f_X9_readNumber_78 k15 v1 v2 v3 s0 S = some q) : ZZ X Γ 5 (QQ X Γ (some (aI q.1)) q.2) S 78 [(0, aR 2), (1, aI v1), (2, aI v2), (3, aI v3)] [aI s0, aR 2] := by
  unfold f_X9_readNumber_78 at hf
  refine zp_X9_value C rfl tw_39 d_X9_readNumber_78 ?_
  refine z_aload_n (j := 0) C d_X9_readNumber_81 rfl ?_
  refine z_dup C d_X9_readNumber_82 rfl ?_
  refine zg_X9_at C rfl tw_43 d_X9_readNumber_83 ?_
  refine z_iconst (v := 1) C d_X9_readNumber_86 (by decide) ?_
  refine z_iadd C d_X9_readNumber_87 ?_
  refine zp_X9_at C rfl tw_43 d_X9_readNumber_88 ?_
  refine z_goto (tgt := 15) C d_X9_readNumber_91 (by decide) ?_
  exact z_sub [0, 1, 2, 3] rfl (hk15 _ _ _ _ hf)
def f_X9_readNumber_162 (s0 : Int32) (S : Mem) : Option (Int32 × Mem) := (if isB s0 = true then (some (s0, S)) else none)
set_option maxRecDepth 20000 in
theorem t_X9_readNumber_162 {X : MC} {Γ : GG} (C : CX X Γ cX9_readNumber 5 "TickPools$Tape" 2 41) (hr : X.2.2.2.2.2.2.2.2.1.sig.returnType = some .boolean) {q : Int32 × Mem} (s0 : Int32) (S : Mem) (hf : f_X9_readNumber_162 s0 S = some q) : ZZ X Γ 5 (QQ X Γ (some (aI q.1)) q.2) S 162 [] [aI s0] := by
  unfold f_X9_readNumber_162 at hf
  obtain ⟨hb162_0, hf⟩ := gd hf
  exact r_i C hr (isB_nar hb162_0).1 d_X9_readNumber_162 hf
def f_X9_readNumber_157 (S : Mem) : Option (Int32 × Mem) := (f_X9_readNumber_162  1 S)
set_option maxRecDepth 20000 in
theorem t_X9_readNumber_157 {X : MC} {Γ : GG} (C : CX X Γ cX9_readNumber 5 "TickPools$Tape" 2 41) (hr : X.2.2.2.2.2.2.2.2.1.sig.returnType = some .boolean) {q : Int32 × Mem} (S : Mem) (hf : f_X9_readNumber_157 S = some q) : ZZ X Γ 5 (QQ X Γ (some (aI q.1)) q.2) S 157 [] [] := by
  unfold f_X9_readNumber_157 at hf
  refine z_iconst (v := 1) C d_X9_readNumber_157 (by decide) ?_
  refine z_goto (tgt := 162) C d_X9_readNumber_158 (by decide) ?_
  exact z_sub [] rfl (t_X9_readNumber_162 C hr  _ _ hf)
def f_X9_readNumber_141 (v3 : Int32) (s0 : Int32) (S : Mem) : Option (Int32 × Mem) := (if s0 = 0 then ((f_X9_blame v3 1 S).bind fun q151 => (if q151.1 = 0 then (f_X9_readNumber_162  0 q151.2) else (f_X9_readNumber_157  q151.2))) else (f_X9_readNumber_157  S))
set_option maxRecDepth 20000 in
theorem t_X9_readNumber_141 {X : MC} {Γ : GG} (C : CX X Γ cX9_readNumber 5 "TickPools$Tape" 2 41) (hr : X.2.2.2.2.2.2.2.2.1.sig.returnType = some .boolean) {q : Int32 × Mem} (v3 : Int32) (s0 : Int32) (S : Mem) (hf : f_X9_readNumber_141 v3 s0 S = some q) : ZZ X Γ 5 (QQ X Γ (some (aI q.1)) q.2) S 141 [(0, aR 2), (3, aI v3)] [aI s0] := by
  unfold f_X9_readNumber_141 at hf
  refine z_istore (lv' := [(4, aI s0), (0, aR 2), (3, aI v3)]) C d_X9_readNumber_141 (by decide) rfl ?_
  refine z_iload (j := 0) C d_X9_readNumber_143 rfl ?_
  refine z_if_ne (tgt := 157) C d_X9_readNumber_145 (by decide) hf (fun c145 hf => ?_) (fun c145 hf => ?_)
  · exact z_sub [] rfl (t_X9_readNumber_157 C hr  _ hf)
  · refine z_aload_n (j := 1) C d_X9_readNumber_148 rfl ?_
    refine z_iload_n (j := 2) C d_X9_readNumber_149 rfl ?_
    refine z_iconst (v := 1) C d_X9_readNumber_150 (by decide) ?_
    obtain ⟨q151, hF, hf⟩ := bd hf
    refine z_callV1 (rest := []) C [aI v3, aI 1] rfl (by decide) rfl rfl k_X9_blame tw_533 ⟨by decide, by decide⟩ (Nat.le_of_ble_eq_true rfl) d_X9_readNumber_151 (c_X9_blame C.inj hF) rfl ?_
    refine z_if_eq (tgt := 161) C d_X9_readNumber_154 (by decide) hf (fun c154 hf => ?_) (fun c154 hf => ?_)
    · refine z_iconst (v := 0) C d_X9_readNumber_161 (by decide) ?_
      exact z_sub [] rfl (t_X9_readNumber_162 C hr  _ _ hf)
    · exact z_sub [] rfl (t_X9_readNumber_157 C hr  _ hf)
def f_X9_readNumber_140 (v3 : Int32) (S : Mem) : Option (Int32 × Mem) := (f_X9_readNumber_141  v3 0 S)
set_option maxRecDepth 20000 in
theorem t_X9_readNumber_140 {X : MC} {Γ : GG} (C : CX X Γ cX9_readNumber 5 "TickPools$Tape" 2 41) (hr : X.2.2.2.2.2.2.2.2.1.sig.returnType = some .boolean) {q : Int32 × Mem} (v3 : Int32) (S : Mem) (hf : f_X9_readNumber_140 v3 S = some q) : ZZ X Γ 5 (QQ X Γ (some (aI q.1)) q.2) S 140 [(0, aR 2), (3, aI v3)] [] := by
  unfold f_X9_readNumber_140 at hf
  refine z_iconst (v := 0) C d_X9_readNumber_140 (by decide) ?_
  exact z_sub [0, 1] rfl (t_X9_readNumber_141 C hr  _ _ _ hf)
def f_X9_readNumber_94 (v1 : Int32) (v2 : Int32) (v3 : Int32) (S : Mem) : Option (Int32 × Mem) := (if (gI S 2 5) = v3 then ((f_X9_blame v3 0 S).bind fun q105 => (if isB q105.1 = true then (some (q105.1, q105.2)) else none)) else (if 7 < ((gI S 2 5) - v3) then (f_X9_readNumber_140  v3 S) else (if (gI S 2 2) < v1 then (f_X9_readNumber_140  v3 S) else (if v2 < (gI S 2 2) then (f_X9_readNumber_140  v3 S) else (f_X9_readNumber_141  v3 1 S)))))
set_option maxRecDepth 20000 in
theorem t_X9_readNumber_94 {X : MC} {Γ : GG} (C : CX X Γ cX9_readNumber 5 "TickPools$Tape" 2 41) (hr : X.2.2.2.2.2.2.2.2.1.sig.returnType = some .boolean) {q : Int32 × Mem} (v1 : Int32) (v2 : Int32) (v3 : Int32) (S : Mem) (hf : f_X9_readNumber_94 v1 v2 v3 S = some q) : ZZ X Γ 5 (QQ X Γ (some (aI q.1)) q.2) S 94 [(0, aR 2), (1, aI v1), (2, aI v2), (3, aI v3)] [] := by
  unfold f_X9_readNumber_94 at hf
  refine z_aload_n (j := 0) C d_X9_readNumber_94 rfl ?_
  refine zg_X9_at C rfl tw_43 d_X9_readNumber_95 ?_
  refine z_iload_n (j := 3) C d_X9_readNumber_98 rfl ?_
  refine z_icmp_ne (tgt := 109) C d_X9_readNumber_99 (by decide) hf (fun c99 hf => ?_) (fun c99 hf => ?_)
  · refine z_aload_n (j := 0) C d_X9_readNumber_109 rfl ?_
    refine zg_X9_at C rfl tw_43 d_X9_readNumber_110 ?_
    refine z_iload_n (j := 3) C d_X9_readNumber_113 rfl ?_
    refine z_isub C d_X9_readNumber_114 ?_
    refine z_bipush (v := 7) C d_X9_readNumber_115 (by decide) ?_
    refine z_icmp_gt (tgt := 140) C d_X9_readNumber_117 (by decide) hf (fun c117 hf => ?_) (fun c117 hf => ?_)
    · exact z_sub [0, 3] rfl (t_X9_readNumber_140 C hr  _ _ hf)
    · refine z_aload_n (j := 0) C d_X9_readNumber_120 rfl ?_
      refine zg_X9_value C rfl tw_39 d_X9_readNumber_121 ?_
      refine z_iload_n (j := 1) C d_X9_readNumber_124 rfl ?_
      refine z_icmp_lt (tgt := 140) C d_X9_readNumber_125 (by decide) hf (fun c125 hf => ?_) (fun c125 hf => ?_)
      · exact z_sub [0, 3] rfl (t_X9_readNumber_140 C hr  _ _ hf)
      · refine z_aload_n (j := 0) C d_X9_readNumber_128 rfl ?_
        refine zg_X9_value C rfl tw_39 d_X9_readNumber_129 ?_
        refine z_iload_n (j := 2) C d_X9_readNumber_132 rfl ?_
        refine z_icmp_gt (tgt := 140) C d_X9_readNumber_133 (by decide) hf (fun c133 hf => ?_) (fun c133 hf => ?_)
        · exact z_sub [0, 3] rfl (t_X9_readNumber_140 C hr  _ _ hf)
        · refine z_iconst (v := 1) C d_X9_readNumber_136 (by decide) ?_
          refine z_goto (tgt := 141) C d_X9_readNumber_137 (by decide) ?_
          exact z_sub [0, 3] rfl (t_X9_readNumber_141 C hr  _ _ _ hf)
  · refine z_aload_n (j := 0) C d_X9_readNumber_102 rfl ?_
    refine z_iload_n (j := 3) C d_X9_readNumber_103 rfl ?_
    refine z_iconst (v := 0) C d_X9_readNumber_104 (by decide) ?_
    obtain ⟨q105, hF, hf⟩ := bd hf
    refine z_callV1 (rest := []) C [aI v3, aI 0] rfl (by decide) rfl rfl k_X9_blame tw_533 ⟨by decide, by decide⟩ (Nat.le_of_ble_eq_true rfl) d_X9_readNumber_105 (c_X9_blame C.inj hF) rfl ?_
    obtain ⟨hb108_1, hf⟩ := gd hf
    exact r_i C hr (isB_nar hb108_1).1 d_X9_readNumber_108 hf
def f_X9_readNumber_15B (k15 : Int32 → Int32 → Int32 → Mem → Option (Int32 × Mem)) (v1 : Int32) (v2 : Int32) (v3 : Int32) (S : Mem) : Option (Int32 × Mem) := (if (gI S 2 0) ≤ (gI S 2 5) then (f_X9_readNumber_94  v1 v2 v3 S) else ((f_X9_byteAt (gI S 2 5) S).bind fun q31 => ((f_X9_isDigit q31.1 q31.2).bind fun q34 => (if q34.1 = 0 then (f_X9_readNumber_94  v1 v2 v3 q34.2) else (if 7 ≤ ((gI q34.2 2 5) - v3) then (f_X9_readNumber_78 k15 v1 v2 v3 (gI q34.2 2 2) q34.2) else ((f_X9_byteAt (gI q34.2 2 5) q34.2).bind fun q64 => (f_X9_readNumber_78 k15 v1 v2 v3 ((((gI q34.2 2 2) * 10) + q64.1) - 48) q64.2)))))))
set_option maxRecDepth 20000 in
theorem t_X9_readNumber_15B {X : MC} {Γ : GG} (C : CX X Γ cX9_readNumber 5 "TickPools$Tape" 2 41) (hr : X.2.2.2.2.2.2.2.2.1.sig.returnType = some .boolean) {k15 : Int32 → Int32 → Int32 → Mem → Option (Int32 × Mem)} {q : Int32 × Mem} (hk15 : ∀ (v1 : Int32) (v2 : Int32) (v3 : Int32) (S : Mem), k15 v1 v2 v3 S = some q → ZZ X Γ 5 (QQ X Γ (some (aI q.1)) q.2) S 15 [(0, aR 2), (1, aI v1), (2, aI v2), (3, aI v3)] []) (v1 : Int32) (v2 : Int32) (v3 : Int32) (S : Mem) (hf : f_X9_readNumber_15B k15 v1 v2 v3 S = some q) : ZZ X Γ 5 (QQ X Γ (some (aI q.1)) q.2) S 15 [(0, aR 2), (1, aI v1), (2, aI v2), (3, aI v3)] [] := by
  unfold f_X9_readNumber_15B at hf
  refine z_aload_n (j := 0) C d_X9_readNumber_15 rfl ?_
  refine zg_X9_at C rfl tw_43 d_X9_readNumber_16 ?_
  refine z_aload_n (j := 0) C d_X9_readNumber_19 rfl ?_
  refine zg_X9_length C rfl tw_33 d_X9_readNumber_20 ?_
  refine z_icmp_ge (tgt := 94) C d_X9_readNumber_23 (by decide) hf (fun c23 hf => ?_) (fun c23 hf => ?_)
  · exact z_sub [0, 1, 2, 3] rfl (t_X9_readNumber_94 C hr  _ _ _ _ hf)
  · refine z_aload_n (j := 0) C d_X9_readNumber_26 rfl ?_
    refine z_aload_n (j := 0) C d_X9_readNumber_27 rfl ?_
    refine zg_X9_at C rfl tw_43 d_X9_readNumber_28 ?_
    obtain ⟨q31, hF, hf⟩ := bd hf
    refine z_callV1 (rest := []) C [aI (gI S 2 5)] rfl (by decide) rfl rfl k_X9_byteAt tw_529 ⟨by decide, by decide⟩ (Nat.le_of_ble_eq_true rfl) d_X9_readNumber_31 (c_X9_byteAt C.inj hF) rfl ?_
    obtain ⟨q34, hF, hf⟩ := bd hf
    refine z_callS1 (rest := []) C [aI q31.1] k_X9_isDigit tw_604 ⟨by decide, by decide⟩ (Nat.le_of_ble_eq_true rfl) d_X9_readNumber_34 (c_X9_isDigit C.inj hF) rfl ?_
    refine z_if_eq (tgt := 94) C d_X9_readNumber_37 (by decide) hf (fun c37 hf => ?_) (fun c37 hf => ?_)
    · exact z_sub [0, 1, 2, 3] rfl (t_X9_readNumber_94 C hr  _ _ _ _ hf)
    · refine z_aload_n (j := 0) C d_X9_readNumber_40 rfl ?_
      refine z_aload_n (j := 0) C d_X9_readNumber_41 rfl ?_
      refine zg_X9_at C rfl tw_43 d_X9_readNumber_42 ?_
      refine z_iload_n (j := 3) C d_X9_readNumber_45 rfl ?_
      refine z_isub C d_X9_readNumber_46 ?_
      refine z_bipush (v := 7) C d_X9_readNumber_47 (by decide) ?_
      refine z_icmp_ge (tgt := 74) C d_X9_readNumber_49 (by decide) hf (fun c49 hf => ?_) (fun c49 hf => ?_)
      · refine z_aload_n (j := 0) C d_X9_readNumber_74 rfl ?_
        refine zg_X9_value C rfl tw_39 d_X9_readNumber_75 ?_
        exact z_sub [0, 1, 2, 3] rfl (t_X9_readNumber_78 C hr hk15 _ _ _ _ _ hf)
      · refine z_aload_n (j := 0) C d_X9_readNumber_52 rfl ?_
        refine zg_X9_value C rfl tw_39 d_X9_readNumber_53 ?_
        refine z_bipush (v := 10) C d_X9_readNumber_56 (by decide) ?_
        refine z_imul C d_X9_readNumber_58 ?_
        refine z_aload_n (j := 0) C d_X9_readNumber_59 rfl ?_
        refine z_aload_n (j := 0) C d_X9_readNumber_60 rfl ?_
        refine zg_X9_at C rfl tw_43 d_X9_readNumber_61 ?_
        obtain ⟨q64, hF, hf⟩ := bd hf
        refine z_callV1 (rest := [aI ((gI q34.2 2 2) * 10), aR 2]) C [aI (gI q34.2 2 5)] rfl (by decide) rfl rfl k_X9_byteAt tw_529 ⟨by decide, by decide⟩ (Nat.le_of_ble_eq_true rfl) d_X9_readNumber_64 (c_X9_byteAt C.inj hF) rfl ?_
        refine z_iadd C d_X9_readNumber_67 ?_
        refine z_bipush (v := 48) C d_X9_readNumber_68 (by decide) ?_
        refine z_isub C d_X9_readNumber_70 ?_
        refine z_goto (tgt := 78) C d_X9_readNumber_71 (by decide) ?_
        exact z_sub [0, 1, 2, 3] rfl (t_X9_readNumber_78 C hr hk15 _ _ _ _ _ hf)
def f_X9_readNumber_15 : Nat → Int32 → Int32 → Int32 → Mem → Option (Int32 × Mem)
  | 0 => fun _ _ _ _ => none
  | n + 1 => f_X9_readNumber_15B (f_X9_readNumber_15 n)
theorem t_X9_readNumber_15 {X : MC} {Γ : GG} (C : CX X Γ cX9_readNumber 5 "TickPools$Tape" 2 41) (hr : X.2.2.2.2.2.2.2.2.1.sig.returnType = some .boolean) {q : Int32 × Mem} : ∀ (n : Nat) (v1 : Int32) (v2 : Int32) (v3 : Int32) (S : Mem) (hf : f_X9_readNumber_15 n v1 v2 v3 S = some q), ZZ X Γ 5 (QQ X Γ (some (aI q.1)) q.2) S 15 [(0, aR 2), (1, aI v1), (2, aI v2), (3, aI v3)] []
  | 0, _, _, _, _, hf => nomatch (show (none : Option (Int32 × Mem)) = some q from hf)
  | n + 1, v1, v2, v3, S, hf => t_X9_readNumber_15B C hr (t_X9_readNumber_15 C hr n) v1 v2 v3 S hf
def f_X9_readNumber_10 (v1 : Int32) (v2 : Int32) (v3 : Int32) (S : Mem) : Option (Int32 × Mem) := (f_X9_readNumber_15  100000 v1 v2 v3 (sI S 2 2 0))
set_option maxRecDepth 20000 in
theorem t_X9_readNumber_10 {X : MC} {Γ : GG} (C : CX X Γ cX9_readNumber 5 "TickPools$Tape" 2 41) (hr : X.2.2.2.2.2.2.2.2.1.sig.returnType = some .boolean) {q : Int32 × Mem} (v1 : Int32) (v2 : Int32) (v3 : Int32) (S : Mem) (hf : f_X9_readNumber_10 v1 v2 v3 S = some q) : ZZ X Γ 5 (QQ X Γ (some (aI q.1)) q.2) S 10 [(0, aR 2), (1, aI v1), (2, aI v2), (3, aI v3)] [] := by
  unfold f_X9_readNumber_10 at hf
  refine z_aload_n (j := 0) C d_X9_readNumber_10 rfl ?_
  refine z_iconst (v := 0) C d_X9_readNumber_11 (by decide) ?_
  refine zp_X9_value C rfl tw_39 d_X9_readNumber_12 ?_
  exact z_sub [0, 1, 2, 3] rfl (t_X9_readNumber_15 C hr  100000 _ _ _ _ hf)
/-- TickPools$Tape.readNumber(II)Z -/
def f_X9_readNumber (p1 : Int32) (p2 : Int32) (S : Mem) : Option (Int32 × Mem) := ((f_X9_peek S).bind fun q1 => (f_X9_readNumber_10  p1 p2 (gI q1.2 2 5) q1.2))
set_option maxRecDepth 20000 in
theorem c_X9_readNumber {l : Launch} {Γ : GG} (hI : Inj Γ) {p1 : Int32} {p2 : Int32} {S : Mem} {q : Int32 × Mem} (hf : f_X9_readNumber p1 p2 S = some q) : MM l Γ yX9_readNumber cX9_readNumber 5 (some .boolean) 2 41 [aR 2, aI p1, aI p2] S (some (aI q.1)) q.2 := by
  refine met_of hI "TickPools$Tape" rfl (by decide +kernel) (Nat.le_of_ble_eq_true rfl) (fun X hX C hr => ?_)
  unfold f_X9_readNumber at hf
  show ZZ X Γ 5 _ S 0 [(0, aR 2), (1, aI p1), (2, aI p2)] []
  refine z_aload_n (j := 0) C d_X9_readNumber_0 rfl ?_
  obtain ⟨q1, hF, hf⟩ := bd hf
  refine z_callV1 (rest := []) C [] rfl (by decide) rfl rfl k_X9_peek tw_525 ⟨by decide, by decide⟩ (Nat.le_of_ble_eq_true rfl) d_X9_readNumber_1 (c_X9_peek C.inj hF) rfl ?_
  refine z_pop C d_X9_readNumber_4 rfl ?_
  refine z_aload_n (j := 0) C d_X9_readNumber_5 rfl ?_
  refine zg_X9_at C rfl tw_43 d_X9_readNumber_6 ?_
  refine z_istore_n (lv' := [(3, aI (gI q1.2 2 5)), (0, aR 2), (1, aI p1), (2, aI p2)]) C d_X9_readNumber_9 (by decide) rfl ?_
  exact z_sub [1, 2, 3, 0] rfl (t_X9_readNumber_10 C hr  _ _ _ _ hf)
theorem d_X3_readSizes_0 : decode cX3_readSizes 0 = .ok (.aload_n 0, 1) := by decide +kernel
theorem d_X3_readSizes_1 : decode cX3_readSizes 1 = .ok (.getfield 9, 3) := by decide +kernel
theorem d_X3_readSizes_4 : decode cX3_readSizes 4 = .ok (.iconst 2, 1) := by decide +kernel
theorem d_X3_readSizes_5 : decode cX3_readSizes 5 = .ok (.iconst 5, 1) := by decide +kernel
theorem d_X3_readSizes_6 : decode cX3_readSizes 6 = .ok (.invokevirtual 72, 3) := by decide +kernel
theorem d_X3_readSizes_9 : decode cX3_readSizes 9 = .ok (.ifCond .ne 5, 3) := by decide +kernel
theorem d_X3_readSizes_12 : decode cX3_readSizes 12 = .ok (.iconst 0, 1) := by decide +kernel
theorem d_X3_readSizes_13 : decode cX3_readSizes 13 = .ok (.ireturn, 1) := by decide +kernel
theorem d_X3_readSizes_14 : decode cX3_readSizes 14 = .ok (.aload_n 0, 1) := by decide +kernel
theorem d_X3_readSizes_15 : decode cX3_readSizes 15 = .ok (.getfield 15, 3) := by decide +kernel
theorem d_X3_readSizes_18 : decode cX3_readSizes 18 = .ok (.aload_n 0, 1) := by decide +kernel
theorem d_X3_readSizes_19 : decode cX3_readSizes 19 = .ok (.getfield 9, 3) := by decide +kernel
theorem d_X3_readSizes_22 : decode cX3_readSizes 22 = .ok (.getfield 76, 3) := by decide +kernel
theorem d_X3_readSizes_25 : decode cX3_readSizes 25 = .ok (.putfield 79, 3) := by decide +kernel
theorem d_X3_readSizes_28 : decode cX3_readSizes 28 = .ok (.aload_n 0, 1) := by decide +kernel
theorem d_X3_readSizes_29 : decode cX3_readSizes 29 = .ok (.getfield 9, 3) := by decide +kernel
theorem d_X3_readSizes_32 : decode cX3_readSizes 32 = .ok (.iconst 1, 1) := by decide +kernel
theorem d_X3_readSizes_33 : decode cX3_readSizes 33 = .ok (.iconst 4, 1) := by decide +kernel
theorem d_X3_readSizes_34 : decode cX3_readSizes 34 = .ok (.invokevirtual 72, 3) := by decide +kernel
theorem d_X3_readSizes_37 : decode cX3_readSizes 37 = .ok (.ifCond .ne 5, 3) := by decide +kernel
theorem d_X3_readSizes_40 : decode cX3_readSizes 40 = .ok (.iconst 0, 1) := by decide +kernel
theorem d_X3_readSizes_41 : decode cX3_readSizes 41 = .ok (.ireturn, 1) := by decide +kernel
theorem d_X3_readSizes_42 : decode cX3_readSizes 42 = .ok (.aload_n 0, 1) := by decide +kernel
theorem d_X3_readSizes_43 : decode cX3_readSizes 43 = .ok (.getfield 15, 3) := by decide +kernel
theorem d_X3_readSizes_46 : decode cX3_readSizes 46 = .ok (.aload_n 0, 1) := by decide +kernel
theorem d_X3_readSizes_47 : decode cX3_readSizes 47 = .ok (.getfield 9, 3) := by decide +kernel
theorem d_X3_readSizes_50 : decode cX3_readSizes 50 = .ok (.getfield 76, 3) := by decide +kernel
theorem d_X3_readSizes_53 : decode cX3_readSizes 53 = .ok (.putfield 82, 3) := by decide +kernel
theorem d_X3_readSizes_56 : decode cX3_readSizes 56 = .ok (.iconst 1, 1) := by decide +kernel
theorem d_X3_readSizes_57 : decode cX3_readSizes 57 = .ok (.ireturn, 1) := by decide +kernel
/-- TickPools$MarketReader.readSizes()Z -/
def f_X3_readSizes (S : Mem) : Option (Int32 × Mem) := ((f_X9_readNumber 2 5 S).bind fun q6 => (if q6.1 = 0 then (some (0, q6.2)) else ((f_X9_readNumber 1 4 (sI q6.2 143 0 (gI q6.2 2 2))).bind fun q34 => (if q34.1 = 0 then (some (0, q34.2)) else (some (1, (sI q34.2 143 1 (gI q34.2 2 2))))))))
set_option maxRecDepth 20000 in
theorem c_X3_readSizes {l : Launch} {Γ : GG} (hI : Inj Γ) {S : Mem} {q : Int32 × Mem} (hf : f_X3_readSizes S = some q) : MM l Γ yX3_readSizes cX3_readSizes 1 (some .boolean) 3 65 [aR 5] S (some (aI q.1)) q.2 := by
  refine met_of hI "TickPools$MarketReader" rfl (by decide +kernel) (Nat.le_of_ble_eq_true rfl) (fun X hX C hr => ?_)
  unfold f_X3_readSizes at hf
  show ZZ X Γ 1 _ S 0 [(0, aR 5)] []
  refine z_aload_n (j := 0) C d_X3_readSizes_0 rfl ?_
  refine zg_X3_tape C rfl tw_295 d_X3_readSizes_1 ?_
  refine z_iconst (v := 2) C d_X3_readSizes_4 (by decide) ?_
  refine z_iconst (v := 5) C d_X3_readSizes_5 (by decide) ?_
  obtain ⟨q6, hF, hf⟩ := bd hf
  refine z_callV1 (rest := []) C [aI 2, aI 5] rfl (by decide) rfl rfl k_X9_readNumber tw_600 ⟨by decide, by decide⟩ (Nat.le_of_ble_eq_true rfl) d_X3_readSizes_6 (c_X9_readNumber C.inj hF) rfl ?_
  refine z_if_ne (tgt := 14) C d_X3_readSizes_9 (by decide) hf (fun c9 hf => ?_) (fun c9 hf => ?_)
  · refine z_aload_n (j := 0) C d_X3_readSizes_14 rfl ?_
    refine zg_X3_market C rfl tw_296 d_X3_readSizes_15 ?_
    refine z_aload_n (j := 0) C d_X3_readSizes_18 rfl ?_
    refine zg_X3_tape C rfl tw_295 d_X3_readSizes_19 ?_
    refine zg_X9_value C rfl tw_37 d_X3_readSizes_22 ?_
    refine zp_X2_things C rfl tw_191 d_X3_readSizes_25 ?_
    refine z_aload_n (j := 0) C d_X3_readSizes_28 rfl ?_
    refine zg_X3_tape C rfl tw_295 d_X3_readSizes_29 ?_
    refine z_iconst (v := 1) C d_X3_readSizes_32 (by decide) ?_
    refine z_iconst (v := 4) C d_X3_readSizes_33 (by decide) ?_
    obtain ⟨q34, hF, hf⟩ := bd hf
    refine z_callV1 (rest := []) C [aI 1, aI 4] rfl (by decide) rfl rfl k_X9_readNumber tw_600 ⟨by decide, by decide⟩ (Nat.le_of_ble_eq_true rfl) d_X3_readSizes_34 (c_X9_readNumber C.inj hF) rfl ?_
    refine z_if_ne (tgt := 42) C d_X3_readSizes_37 (by decide) hf (fun c37 hf => ?_) (fun c37 hf => ?_)
    · refine z_aload_n (j := 0) C d_X3_readSizes_42 rfl ?_
      refine zg_X3_market C rfl tw_296 d_X3_readSizes_43 ?_
      refine z_aload_n (j := 0) C d_X3_readSizes_46 rfl ?_
      refine zg_X3_tape C rfl tw_295 d_X3_readSizes_47 ?_
      refine zg_X9_value C rfl tw_37 d_X3_readSizes_50 ?_
      refine zp_X2_people C rfl tw_194 d_X3_readSizes_53 ?_
      refine z_iconst (v := 1) C d_X3_readSizes_56 (by decide) ?_
      exact r_i C hr (by decide) d_X3_readSizes_57 hf
    · refine z_iconst (v := 0) C d_X3_readSizes_40 (by decide) ?_
      exact r_i C hr (by decide) d_X3_readSizes_41 hf
  · refine z_iconst (v := 0) C d_X3_readSizes_12 (by decide) ?_
    exact r_i C hr (by decide) d_X3_readSizes_13 hf
theorem d_X9_readNumberBut_0 : decode cX9_readNumberBut 0 = .ok (.aload_n 0, 1) := by decide +kernel
theorem d_X9_readNumberBut_1 : decode cX9_readNumberBut 1 = .ok (.invokevirtual 29, 3) := by decide +kernel
theorem d_X9_readNumberBut_4 : decode cX9_readNumberBut 4 = .ok (.pop, 1) := by decide +kernel
theorem d_X9_readNumberBut_5 : decode cX9_readNumberBut 5 = .ok (.aload_n 0, 1) := by decide +kernel
theorem d_X9_readNumberBut_6 : decode cX9_readNumberBut 6 = .ok (.getfield 19, 3) := by decide +kernel
theorem d_X9_readNumberBut_9 : decode cX9_readNumberBut 9 = .ok (.istore_n 3, 1) := by decide +kernel
theorem d_X9_readNumberBut_10 : decode cX9_readNumberBut 10 = .ok (.aload_n 0, 1) := by decide +kernel
theorem d_X9_readNumberBut_11 : decode cX9_readNumberBut 11 = .ok (.iconst 0, 1) := by decide +kernel
theorem d_X9_readNumberBut_12 : decode cX9_readNumberBut 12 = .ok (.iload_n 1, 1) := by decide +kernel
theorem d_X9_readNumberBut_13 : decode cX9_readNumberBut 13 = .ok (.invokevirtual 58, 3) := by decide +kernel
theorem d_X9_readNumberBut_16 : decode cX9_readNumberBut 16 = .ok (.ifCond .eq 24, 3) := by decide +kernel
theorem d_X9_readNumberBut_19 : decode cX9_readNumberBut 19 = .ok (.aload_n 0, 1) := by decide +kernel
theorem d_X9_readNumberBut_20 : decode cX9_readNumberBut 20 = .ok (.getfield 51, 3) := by decide +kernel
theorem d_X9_readNumberBut_23 : decode cX9_readNumberBut 23 = .ok (.iload_n 2, 1) := by decide +kernel
theorem d_X9_readNumberBut_24 : decode cX9_readNumberBut 24 = .ok (.if_icmp .ne 12, 3) := by decide +kernel
theorem d_X9_readNumberBut_27 : decode cX9_readNumberBut 27 = .ok (.aload_n 0, 1) := by decide +kernel
theorem d_X9_readNumberBut_28 : decode cX9_readNumberBut 28 = .ok (.iload_n 3, 1) := by decide +kernel
theorem d_X9_readNumberBut_29 : decode cX9_readNumberBut 29 = .ok (.iconst 1, 1) := by decide +kernel
theorem d_X9_readNumberBut_30 : decode cX9_readNumberBut 30 = .ok (.invokevirtual 33, 3) := by decide +kernel
theorem d_X9_readNumberBut_33 : decode cX9_readNumberBut 33 = .ok (.ifCond .eq 7, 3) := by decide +kernel
theorem d_X9_readNumberBut_36 : decode cX9_readNumberBut 36 = .ok (.iconst 1, 1) := by decide +kernel
theorem d_X9_readNumberBut_37 : decode cX9_readNumberBut 37 = .ok (.goto 4, 3) := by decide +kernel
theorem d_X9_readNumberBut_40 : decode cX9_readNumberBut 40 = .ok (.iconst 0, 1) := by decide +kernel
theorem d_X9_readNumberBut_41 : decode cX9_readNumberBut 41 = .ok (.ireturn, 1) := by decide +kernel
def f_X9_readNumberBut_41 (s0 : Int32) (S : Mem) : Option (Int32 × Mem) := (if isB s0 = true then (some (s0, S)) else none)
set_option maxRecDepth 20000 in
theorem t_X9_readNumberBut_41 {X : MC} {Γ : GG} (C : CX X Γ cX9_readNumberBut 4 "TickPools$Tape" 3 65) (hr : X.2.2.2.2.2.2.2.2.1.sig.returnType = some .boolean) {q : Int32 × Mem} (s0 : Int32) (S : Mem) (hf : f_X9_readNumberBut_41 s0 S = some q) : ZZ X Γ 4 (QQ X Γ (some (aI q.1)) q.2) S 41 [] [aI s0] := by
  unfold f_X9_readNumberBut_41 at hf
  obtain ⟨hb41_0, hf⟩ := gd hf
  exact r_i C hr (isB_nar hb41_0).1 d_X9_readNumberBut_41 hf
def f_X9_readNumberBut_36 (S : Mem) : Option (Int32 × Mem) := (f_X9_readNumberBut_41  1 S)
set_option maxRecDepth 20000 in
theorem t_X9_readNumberBut_36 {X : MC} {Γ : GG} (C : CX X Γ cX9_readNumberBut 4 "TickPools$Tape" 3 65) (hr : X.2.2.2.2.2.2.2.2.1.sig.returnType = some .boolean) {q : Int32 × Mem} (S : Mem) (hf : f_X9_readNumberBut_36 S = some q) : ZZ X Γ 4 (QQ X Γ (some (aI q.1)) q.2) S 36 [] [] := by
  unfold f_X9_readNumberBut_36 at hf
  refine z_iconst (v := 1) C d_X9_readNumberBut_36 (by decide) ?_
  refine z_goto (tgt := 41) C d_X9_readNumberBut_37 (by decide) ?_
  exact z_sub [] rfl (t_X9_readNumberBut_41 C hr  _ _ hf)
def f_X9_readNumberBut_40 (S : Mem) : Option (Int32 × Mem) := (f_X9_readNumberBut_41  0 S)
set_option maxRecDepth 20000 in
theorem t_X9_readNumberBut_40 {X : MC} {Γ : GG} (C : CX X Γ cX9_readNumberBut 4 "TickPools$Tape" 3 65) (hr : X.2.2.2.2.2.2.2.2.1.sig.returnType = some .boolean) {q : Int32 × Mem} (S : Mem) (hf : f_X9_readNumberBut_40 S = some q) : ZZ X Γ 4 (QQ X Γ (some (aI q.1)) q.2) S 40 [] [] := by
  unfold f_X9_readNumberBut_40 at hf
  refine z_iconst (v := 0) C d_X9_readNumberBut_40 (by decide) ?_
  exact z_sub [] rfl (t_X9_readNumberBut_41 C hr  _ _ hf)
def f_X9_readNumberBut_10 (v1 : Int32) (v2 : Int32) (v3 : Int32) (S : Mem) : Option (Int32 × Mem) := ((f_X9_readNumber 0 v1 S).bind fun q13 => (if q13.1 = 0 then (f_X9_readNumberBut_40  q13.2) else (if (gI q13.2 2 2) = v2 then ((f_X9_blame v3 1 q13.2).bind fun q30 => (if q30.1 = 0 then (f_X9_readNumberBut_40  q30.2) else (f_X9_readNumberBut_36  q30.2))) else (f_X9_readNumberBut_36  q13.2))))
set_option maxRecDepth 20000 in
theorem t_X9_readNumberBut_10 {X : MC} {Γ : GG} (C : CX X Γ cX9_readNumberBut 4 "TickPools$Tape" 3 65) (hr : X.2.2.2.2.2.2.2.2.1.sig.returnType = some .boolean) {q : Int32 × Mem} (v1 : Int32) (v2 : Int32) (v3 : Int32) (S : Mem) (hf : f_X9_readNumberBut_10 v1 v2 v3 S = some q) : ZZ X Γ 4 (QQ X Γ (some (aI q.1)) q.2) S 10 [(0, aR 2), (1, aI v1), (2, aI v2), (3, aI v3)] [] := by
  unfold f_X9_readNumberBut_10 at hf
  refine z_aload_n (j := 0) C d_X9_readNumberBut_10 rfl ?_
  refine z_iconst (v := 0) C d_X9_readNumberBut_11 (by decide) ?_
  refine z_iload_n (j := 1) C d_X9_readNumberBut_12 rfl ?_
  obtain ⟨q13, hF, hf⟩ := bd hf
  refine z_callV1 (rest := []) C [aI 0, aI v1] rfl (by decide) rfl rfl k_X9_readNumber tw_619 ⟨by decide, by decide⟩ (Nat.le_of_ble_eq_true rfl) d_X9_readNumberBut_13 (c_X9_readNumber C.inj hF) rfl ?_
  refine z_if_eq (tgt := 40) C d_X9_readNumberBut_16 (by decide) hf (fun c16 hf => ?_) (fun c16 hf => ?_)
  · exact z_sub [] rfl (t_X9_readNumberBut_40 C hr  _ hf)
  · refine z_aload_n (j := 0) C d_X9_readNumberBut_19 rfl ?_
    refine zg_X9_value C rfl tw_39 d_X9_readNumberBut_20 ?_
    refine z_iload_n (j := 2) C d_X9_readNumberBut_23 rfl ?_
    refine z_icmp_ne (tgt := 36) C d_X9_readNumberBut_24 (by decide) hf (fun c24 hf => ?_) (fun c24 hf => ?_)
    · exact z_sub [] rfl (t_X9_readNumberBut_36 C hr  _ hf)
    · refine z_aload_n (j := 0) C d_X9_readNumberBut_27 rfl ?_
      refine z_iload_n (j := 3) C d_X9_readNumberBut_28 rfl ?_
      refine z_iconst (v := 1) C d_X9_readNumberBut_29 (by decide) ?_
      obtain ⟨q30, hF, hf⟩ := bd hf
      refine z_callV1 (rest := []) C [aI v3, aI 1] rfl (by decide) rfl rfl k_X9_blame tw_533 ⟨by decide, by decide⟩ (Nat.le_of_ble_eq_true rfl) d_X9_readNumberBut_30 (c_X9_blame C.inj hF) rfl ?_
      refine z_if_eq (tgt := 40) C d_X9_readNumberBut_33 (by decide) hf (fun c33 hf => ?_) (fun c33 hf => ?_)
      · exact z_sub [] rfl (t_X9_readNumberBut_40 C hr  _ hf)
      · exact z_sub [] rfl (t_X9_readNumberBut_36 C hr  _ hf)
/-- TickPools$Tape.readNumberBut(II)Z -/
def f_X9_readNumberBut (p1 : Int32) (p2 : Int32) (S : Mem) : Option (Int32 × Mem) := ((f_X9_peek S).bind fun q1 => (f_X9_readNumberBut_10  p1 p2 (gI q1.2 2 5) q1.2))
set_option maxRecDepth 20000 in
theorem c_X9_readNumberBut {l : Launch} {Γ : GG} (hI : Inj Γ) {p1 : Int32} {p2 : Int32} {S : Mem} {q : Int32 × Mem} (hf : f_X9_readNumberBut p1 p2 S = some q) : MM l Γ yX9_readNumberBut cX9_readNumberBut 4 (some .boolean) 3 65 [aR 2, aI p1, aI p2] S (some (aI q.1)) q.2 := by
  refine met_of hI "TickPools$Tape" rfl (by decide +kernel) (Nat.le_of_ble_eq_true rfl) (fun X hX C hr => ?_)
  unfold f_X9_readNumberBut at hf
  show ZZ X Γ 4 _ S 0 [(0, aR 2), (1, aI p1), (2, aI p2)] []
  refine z_aload_n (j := 0) C d_X9_readNumberBut_0 rfl ?_
  obtain ⟨q1, hF, hf⟩ := bd hf
  refine z_callV1 (rest := []) C [] rfl (by decide) rfl rfl k_X9_peek tw_525 ⟨by decide, by decide⟩ (Nat.le_of_ble_eq_true rfl) d_X9_readNumberBut_1 (c_X9_peek C.inj hF) rfl ?_
  refine z_pop C d_X9_readNumberBut_4 rfl ?_
  refine z_aload_n (j := 0) C d_X9_readNumberBut_5 rfl ?_
  refine zg_X9_at C rfl tw_43 d_X9_readNumberBut_6 ?_
  refine z_istore_n (lv' := [(3, aI (gI q1.2 2 5)), (0, aR 2), (1, aI p1), (2, aI p2)]) C d_X9_readNumberBut_9 (by decide) rfl ?_
  exact z_sub [1, 2, 3, 0] rfl (t_X9_readNumberBut_10 C hr  _ _ _ _ hf)
theorem d_X4_open_0 : decode cX4_open 0 = .ok (.aload_n 0, 1) := by decide +kernel
theorem d_X4_open_1 : decode cX4_open 1 = .ok (.iload_n 1, 1) := by decide +kernel
theorem d_X4_open_2 : decode cX4_open 2 = .ok (.iload_n 2, 1) := by decide +kernel
theorem d_X4_open_3 : decode cX4_open 3 = .ok (.invokestatic 24, 3) := by decide +kernel
theorem d_X4_open_6 : decode cX4_open 6 = .ok (.putfield 30, 3) := by decide +kernel
theorem d_X4_open_9 : decode cX4_open 9 = .ok (.aload_n 0, 1) := by decide +kernel
theorem d_X4_open_10 : decode cX4_open 10 = .ok (.aload_n 0, 1) := by decide +kernel
theorem d_X4_open_11 : decode cX4_open 11 = .ok (.getfield 30, 3) := by decide +kernel
theorem d_X4_open_14 : decode cX4_open 14 = .ok (.invokestatic 34, 3) := by decide +kernel
theorem d_X4_open_17 : decode cX4_open 17 = .ok (.putfield 38, 3) := by decide +kernel
theorem d_X4_open_20 : decode cX4_open 20 = .ok (.aload_n 0, 1) := by decide +kernel
theorem d_X4_open_21 : decode cX4_open 21 = .ok (.getfield 9, 3) := by decide +kernel
theorem d_X4_open_24 : decode cX4_open 24 = .ok (.iconst 0, 1) := by decide +kernel
theorem d_X4_open_25 : decode cX4_open 25 = .ok (.iconst 0, 1) := by decide +kernel
theorem d_X4_open_26 : decode cX4_open 26 = .ok (.iastore, 1) := by decide +kernel
theorem d_X4_open_27 : decode cX4_open 27 = .ok (.aload_n 0, 1) := by decide +kernel
theorem d_X4_open_28 : decode cX4_open 28 = .ok (.getfield 9, 3) := by decide +kernel
theorem d_X4_open_31 : decode cX4_open 31 = .ok (.iconst 1, 1) := by decide +kernel
theorem d_X4_open_32 : decode cX4_open 32 = .ok (.iconst 0, 1) := by decide +kernel
theorem d_X4_open_33 : decode cX4_open 33 = .ok (.iastore, 1) := by decide +kernel
theorem d_X4_open_34 : decode cX4_open 34 = .ok (.aload_n 0, 1) := by decide +kernel
theorem d_X4_open_35 : decode cX4_open 35 = .ok (.getfield 15, 3) := by decide +kernel
theorem d_X4_open_38 : decode cX4_open 38 = .ok (.iconst 0, 1) := by decide +kernel
theorem d_X4_open_39 : decode cX4_open 39 = .ok (.iconst 0, 1) := by decide +kernel
theorem d_X4_open_40 : decode cX4_open 40 = .ok (.iastore, 1) := by decide +kernel
theorem d_X4_open_41 : decode cX4_open 41 = .ok (.aload_n 0, 1) := by decide +kernel
theorem d_X4_open_42 : decode cX4_open 42 = .ok (.getfield 15, 3) := by decide +kernel
theorem d_X4_open_45 : decode cX4_open 45 = .ok (.iconst 1, 1) := by decide +kernel
theorem d_X4_open_46 : decode cX4_open 46 = .ok (.iconst 0, 1) := by decide +kernel
theorem d_X4_open_47 : decode cX4_open 47 = .ok (.iastore, 1) := by decide +kernel
theorem d_X4_open_48 : decode cX4_open 48 = .ok (.aload_n 0, 1) := by decide +kernel
theorem d_X4_open_49 : decode cX4_open 49 = .ok (.iconst 1, 1) := by decide +kernel
theorem d_X4_open_50 : decode cX4_open 50 = .ok (.putfield 41, 3) := by decide +kernel
theorem d_X4_open_53 : decode cX4_open 53 = .ok (.aload_n 0, 1) := by decide +kernel
theorem d_X4_open_54 : decode cX4_open 54 = .ok (.getfield 18, 3) := by decide +kernel
theorem d_X4_open_57 : decode cX4_open 57 = .ok (.iconst 0, 1) := by decide +kernel
theorem d_X4_open_58 : decode cX4_open 58 = .ok (.iconst 0, 1) := by decide +kernel
theorem d_X4_open_59 : decode cX4_open 59 = .ok (.iastore, 1) := by decide +kernel
theorem d_X4_open_60 : decode cX4_open 60 = .ok (.aload_n 0, 1) := by decide +kernel
theorem d_X4_open_61 : decode cX4_open 61 = .ok (.getfield 21, 3) := by decide +kernel
theorem d_X4_open_64 : decode cX4_open 64 = .ok (.iconst 0, 1) := by decide +kernel
theorem d_X4_open_65 : decode cX4_open 65 = .ok (.iconst 0, 1) := by decide +kernel
theorem d_X4_open_66 : decode cX4_open 66 = .ok (.iastore, 1) := by decide +kernel
theorem d_X4_open_67 : decode cX4_open 67 = .ok (.return_, 1) := by decide +kernel
def f_X4_open_53 (v0 : Nat) (S : Mem) : Option (Unit × Mem) := (if kd v0 = (3, 12) then (some ((), (sI (sI S (v0 + 3) ((0 : Int32).toNatClampNeg) 0) (v0 + 4) ((0 : Int32).toNatClampNeg) 0))) else none)
set_option maxRecDepth 20000 in
theorem t_X4_open_53 {X : MC} {Γ : GG} (C : CX X Γ cX4_open 3 "TickPools$Pool" 2 51) (hr : X.2.2.2.2.2.2.2.2.1.sig.returnType = none) {q : Unit × Mem} (v0 : Nat) (S : Mem) (hf : f_X4_open_53 v0 S = some q) : ZZ X Γ 3 (QQ X Γ none q.2) S 53 [(0, aR v0)] [] := by
  unfold f_X4_open_53 at hf
  refine z_aload_n (j := 0) C d_X4_open_53 rfl ?_
  obtain ⟨hg54_0, hf⟩ := gd hf
  refine zg_X4_markTime C hg54_0 tw_113 d_X4_open_54 ?_
  refine z_iconst (v := 0) C d_X4_open_57 (by decide) ?_
  refine z_iconst (v := 0) C d_X4_open_58 (by decide) ?_
  refine z_iast C (kdP3 hg54_0) (by decide) d_X4_open_59 ?_
  refine z_aload_n (j := 0) C d_X4_open_60 rfl ?_
  refine zg_X4_markSum C hg54_0 tw_114 d_X4_open_61 ?_
  refine z_iconst (v := 0) C d_X4_open_64 (by decide) ?_
  refine z_iconst (v := 0) C d_X4_open_65 (by decide) ?_
  refine z_iast C (kdP4 hg54_0) (by decide) d_X4_open_66 ?_
  exact r_v C hr d_X4_open_67 hf
def f_X4_open_34 (v0 : Nat) (S : Mem) : Option (Unit × Mem) := (if kd v0 = (3, 12) then (f_X4_open_53  v0 (sI (sI (sI S (v0 + 2) ((0 : Int32).toNatClampNeg) 0) (v0 + 2) ((1 : Int32).toNatClampNeg) 0) v0 7 1)) else none)
set_option maxRecDepth 20000 in
theorem t_X4_open_34 {X : MC} {Γ : GG} (C : CX X Γ cX4_open 3 "TickPools$Pool" 2 51) (hr : X.2.2.2.2.2.2.2.2.1.sig.returnType = none) {q : Unit × Mem} (v0 : Nat) (S : Mem) (hf : f_X4_open_34 v0 S = some q) : ZZ X Γ 3 (QQ X Γ none q.2) S 34 [(0, aR v0)] [] := by
  unfold f_X4_open_34 at hf
  refine z_aload_n (j := 0) C d_X4_open_34 rfl ?_
  obtain ⟨hg35_0, hf⟩ := gd hf
  refine zg_X4_house C hg35_0 tw_110 d_X4_open_35 ?_
  refine z_iconst (v := 0) C d_X4_open_38 (by decide) ?_
  refine z_iconst (v := 0) C d_X4_open_39 (by decide) ?_
  refine z_iast C (kdP2 hg35_0) (by decide) d_X4_open_40 ?_
  refine z_aload_n (j := 0) C d_X4_open_41 rfl ?_
  refine zg_X4_house C hg35_0 tw_110 d_X4_open_42 ?_
  refine z_iconst (v := 1) C d_X4_open_45 (by decide) ?_
  refine z_iconst (v := 0) C d_X4_open_46 (by decide) ?_
  refine z_iast C (kdP2 hg35_0) (by decide) d_X4_open_47 ?_
  refine z_aload_n (j := 0) C d_X4_open_48 rfl ?_
  refine z_iconst (v := 1) C d_X4_open_49 (by decide) ?_
  refine zp_X4_marks C hg35_0 tw_105 d_X4_open_50 ?_
  exact z_sub [0] rfl (t_X4_open_53 C hr  _ _ hf)
/-- TickPools$Pool.open(II)V -/
def f_X4_open (h0 : Nat) (p1 : Int32) (p2 : Int32) (S : Mem) : Option (Unit × Mem) := ((f_X0_startRoot p1 p2 S).bind fun q3 => (if kd h0 = (3, 12) then ((f_X0_zoneOf (gI (sI q3.2 h0 5 q3.1) h0 5) (sI q3.2 h0 5 q3.1)).bind fun q14 => (f_X4_open_34  h0 (sI (sI (sI q14.2 h0 6 q14.1) (h0 + 1) ((0 : Int32).toNatClampNeg) 0) (h0 + 1) ((1 : Int32).toNatClampNeg) 0))) else none))
set_option maxRecDepth 20000 in
theorem c_X4_open {l : Launch} {Γ : GG} (hI : Inj Γ) {h0 : Nat} {p1 : Int32} {p2 : Int32} {S : Mem} {q : Unit × Mem} (hf : f_X4_open h0 p1 p2 S = some q) : MM l Γ yX4_open cX4_open 3 (none) 2 51 [aR h0, aI p1, aI p2] S none q.2 := by
  refine met_of hI "TickPools$Pool" rfl (by decide +kernel) (Nat.le_of_ble_eq_true rfl) (fun X hX C hr => ?_)
  unfold f_X4_open at hf
  show ZZ X Γ 3 _ S 0 [(0, aR h0), (1, aI p1), (2, aI p2)] []
  refine z_aload_n (j := 0) C d_X4_open_0 rfl ?_
  refine z_iload_n (j := 1) C d_X4_open_1 rfl ?_
  refine z_iload_n (j := 2) C d_X4_open_2 rfl ?_
  obtain ⟨q3, hF, hf⟩ := bd hf
  refine z_callS1 (rest := [aR h0]) C [aI p1, aI p2] k_X0_startRoot tw_624 ⟨by decide, by decide⟩ (Nat.le_of_ble_eq_true rfl) d_X4_open_3 (c_X0_startRoot C.inj hF) rfl ?_
  obtain ⟨hg6_0, hf⟩ := gd hf
  refine zp_X4_root C hg6_0 tw_95 d_X4_open_6 ?_
  refine z_aload_n (j := 0) C d_X4_open_9 rfl ?_
  refine z_aload_n (j := 0) C d_X4_open_10 rfl ?_
  refine zg_X4_root C hg6_0 tw_95 d_X4_open_11 ?_
  obtain ⟨q14, hF, hf⟩ := bd hf
  refine z_callS1 (rest := [aR h0]) C [aI (gI (sI q3.2 h0 5 q3.1) h0 5)] k_X0_zoneOf tw_634 ⟨by decide, by decide⟩ (Nat.le_of_ble_eq_true rfl) d_X4_open_14 (c_X0_zoneOf C.inj hF) rfl ?_
  refine zp_X4_zone C hg6_0 tw_99 d_X4_open_17 ?_
  refine z_aload_n (j := 0) C d_X4_open_20 rfl ?_
  refine zg_X4_held C hg6_0 tw_106 d_X4_open_21 ?_
  refine z_iconst (v := 0) C d_X4_open_24 (by decide) ?_
  refine z_iconst (v := 0) C d_X4_open_25 (by decide) ?_
  refine z_iast C (kdP1 hg6_0) (by decide) d_X4_open_26 ?_
  refine z_aload_n (j := 0) C d_X4_open_27 rfl ?_
  refine zg_X4_held C hg6_0 tw_106 d_X4_open_28 ?_
  refine z_iconst (v := 1) C d_X4_open_31 (by decide) ?_
  refine z_iconst (v := 0) C d_X4_open_32 (by decide) ?_
  refine z_iast C (kdP1 hg6_0) (by decide) d_X4_open_33 ?_
  exact z_sub [0] rfl (t_X4_open_34 C hr  _ _ hf)
theorem d_X3_readPool_0 : decode cX3_readPool 0 = .ok (.aload_n 0, 1) := by decide +kernel
theorem d_X3_readPool_1 : decode cX3_readPool 1 = .ok (.getfield 15, 3) := by decide +kernel
theorem d_X3_readPool_4 : decode cX3_readPool 4 = .ok (.invokevirtual 85, 3) := by decide +kernel
theorem d_X3_readPool_7 : decode cX3_readPool 7 = .ok (.astore_n 1, 1) := by decide +kernel
theorem d_X3_readPool_8 : decode cX3_readPool 8 = .ok (.aload_n 1, 1) := by decide +kernel
theorem d_X3_readPool_9 : decode cX3_readPool 9 = .ok (.ifnull 23, 3) := by decide +kernel
theorem d_X3_readPool_12 : decode cX3_readPool 12 = .ok (.aload_n 0, 1) := by decide +kernel
theorem d_X3_readPool_13 : decode cX3_readPool 13 = .ok (.getfield 9, 3) := by decide +kernel
theorem d_X3_readPool_16 : decode cX3_readPool 16 = .ok (.iconst 0, 1) := by decide +kernel
theorem d_X3_readPool_17 : decode cX3_readPool 17 = .ok (.aload_n 0, 1) := by decide +kernel
theorem d_X3_readPool_18 : decode cX3_readPool 18 = .ok (.getfield 15, 3) := by decide +kernel
theorem d_X3_readPool_21 : decode cX3_readPool 21 = .ok (.getfield 79, 3) := by decide +kernel
theorem d_X3_readPool_24 : decode cX3_readPool 24 = .ok (.iconst 1, 1) := by decide +kernel
theorem d_X3_readPool_25 : decode cX3_readPool 25 = .ok (.isub, 1) := by decide +kernel
theorem d_X3_readPool_26 : decode cX3_readPool 26 = .ok (.invokevirtual 72, 3) := by decide +kernel
theorem d_X3_readPool_29 : decode cX3_readPool 29 = .ok (.ifCond .ne 5, 3) := by decide +kernel
theorem d_X3_readPool_32 : decode cX3_readPool 32 = .ok (.iconst 0, 1) := by decide +kernel
theorem d_X3_readPool_33 : decode cX3_readPool 33 = .ok (.ireturn, 1) := by decide +kernel
theorem d_X3_readPool_34 : decode cX3_readPool 34 = .ok (.aload_n 1, 1) := by decide +kernel
theorem d_X3_readPool_35 : decode cX3_readPool 35 = .ok (.aload_n 0, 1) := by decide +kernel
theorem d_X3_readPool_36 : decode cX3_readPool 36 = .ok (.getfield 9, 3) := by decide +kernel
theorem d_X3_readPool_39 : decode cX3_readPool 39 = .ok (.getfield 76, 3) := by decide +kernel
theorem d_X3_readPool_42 : decode cX3_readPool 42 = .ok (.putfield 89, 3) := by decide +kernel
theorem d_X3_readPool_45 : decode cX3_readPool 45 = .ok (.aload_n 0, 1) := by decide +kernel
theorem d_X3_readPool_46 : decode cX3_readPool 46 = .ok (.getfield 9, 3) := by decide +kernel
theorem d_X3_readPool_49 : decode cX3_readPool 49 = .ok (.aload_n 0, 1) := by decide +kernel
theorem d_X3_readPool_50 : decode cX3_readPool 50 = .ok (.getfield 15, 3) := by decide +kernel
theorem d_X3_readPool_53 : decode cX3_readPool 53 = .ok (.getfield 79, 3) := by decide +kernel
theorem d_X3_readPool_56 : decode cX3_readPool 56 = .ok (.iconst 1, 1) := by decide +kernel
theorem d_X3_readPool_57 : decode cX3_readPool 57 = .ok (.isub, 1) := by decide +kernel
theorem d_X3_readPool_58 : decode cX3_readPool 58 = .ok (.aload_n 1, 1) := by decide +kernel
theorem d_X3_readPool_59 : decode cX3_readPool 59 = .ok (.getfield 89, 3) := by decide +kernel
theorem d_X3_readPool_62 : decode cX3_readPool 62 = .ok (.invokevirtual 94, 3) := by decide +kernel
theorem d_X3_readPool_65 : decode cX3_readPool 65 = .ok (.ifCond .ne 5, 3) := by decide +kernel
theorem d_X3_readPool_68 : decode cX3_readPool 68 = .ok (.iconst 0, 1) := by decide +kernel
theorem d_X3_readPool_69 : decode cX3_readPool 69 = .ok (.ireturn, 1) := by decide +kernel
theorem d_X3_readPool_70 : decode cX3_readPool 70 = .ok (.aload_n 1, 1) := by decide +kernel
theorem d_X3_readPool_71 : decode cX3_readPool 71 = .ok (.aload_n 0, 1) := by decide +kernel
theorem d_X3_readPool_72 : decode cX3_readPool 72 = .ok (.getfield 9, 3) := by decide +kernel
theorem d_X3_readPool_75 : decode cX3_readPool 75 = .ok (.getfield 76, 3) := by decide +kernel
theorem d_X3_readPool_78 : decode cX3_readPool 78 = .ok (.putfield 97, 3) := by decide +kernel
theorem d_X3_readPool_81 : decode cX3_readPool 81 = .ok (.aload_n 0, 1) := by decide +kernel
theorem d_X3_readPool_82 : decode cX3_readPool 82 = .ok (.getfield 9, 3) := by decide +kernel
theorem d_X3_readPool_85 : decode cX3_readPool 85 = .ok (.iconst 0, 1) := by decide +kernel
theorem d_X3_readPool_86 : decode cX3_readPool 86 = .ok (.bipush 99, 2) := by decide +kernel
theorem d_X3_readPool_88 : decode cX3_readPool 88 = .ok (.invokevirtual 72, 3) := by decide +kernel
theorem d_X3_readPool_91 : decode cX3_readPool 91 = .ok (.ifCond .ne 5, 3) := by decide +kernel
theorem d_X3_readPool_94 : decode cX3_readPool 94 = .ok (.iconst 0, 1) := by decide +kernel
theorem d_X3_readPool_95 : decode cX3_readPool 95 = .ok (.ireturn, 1) := by decide +kernel
theorem d_X3_readPool_96 : decode cX3_readPool 96 = .ok (.aload_n 1, 1) := by decide +kernel
theorem d_X3_readPool_97 : decode cX3_readPool 97 = .ok (.aload_n 0, 1) := by decide +kernel
theorem d_X3_readPool_98 : decode cX3_readPool 98 = .ok (.getfield 9, 3) := by decide +kernel
theorem d_X3_readPool_101 : decode cX3_readPool 101 = .ok (.getfield 76, 3) := by decide +kernel
theorem d_X3_readPool_104 : decode cX3_readPool 104 = .ok (.putfield 100, 3) := by decide +kernel
theorem d_X3_readPool_107 : decode cX3_readPool 107 = .ok (.aload_n 0, 1) := by decide +kernel
theorem d_X3_readPool_108 : decode cX3_readPool 108 = .ok (.getfield 9, 3) := by decide +kernel
theorem d_X3_readPool_111 : decode cX3_readPool 111 = .ok (.iconst 0, 1) := by decide +kernel
theorem d_X3_readPool_112 : decode cX3_readPool 112 = .ok (.bipush 100, 2) := by decide +kernel
theorem d_X3_readPool_114 : decode cX3_readPool 114 = .ok (.invokevirtual 72, 3) := by decide +kernel
theorem d_X3_readPool_117 : decode cX3_readPool 117 = .ok (.ifCond .ne 5, 3) := by decide +kernel
theorem d_X3_readPool_120 : decode cX3_readPool 120 = .ok (.iconst 0, 1) := by decide +kernel
theorem d_X3_readPool_121 : decode cX3_readPool 121 = .ok (.ireturn, 1) := by decide +kernel
theorem d_X3_readPool_122 : decode cX3_readPool 122 = .ok (.aload_n 1, 1) := by decide +kernel
theorem d_X3_readPool_123 : decode cX3_readPool 123 = .ok (.aload_n 0, 1) := by decide +kernel
theorem d_X3_readPool_124 : decode cX3_readPool 124 = .ok (.getfield 9, 3) := by decide +kernel
theorem d_X3_readPool_127 : decode cX3_readPool 127 = .ok (.getfield 76, 3) := by decide +kernel
theorem d_X3_readPool_130 : decode cX3_readPool 130 = .ok (.putfield 103, 3) := by decide +kernel
theorem d_X3_readPool_133 : decode cX3_readPool 133 = .ok (.aload_n 0, 1) := by decide +kernel
theorem d_X3_readPool_134 : decode cX3_readPool 134 = .ok (.getfield 9, 3) := by decide +kernel
theorem d_X3_readPool_137 : decode cX3_readPool 137 = .ok (.iconst 1, 1) := by decide +kernel
theorem d_X3_readPool_138 : decode cX3_readPool 138 = .ok (.bipush 10, 2) := by decide +kernel
theorem d_X3_readPool_140 : decode cX3_readPool 140 = .ok (.invokevirtual 72, 3) := by decide +kernel
theorem d_X3_readPool_143 : decode cX3_readPool 143 = .ok (.ifCond .ne 5, 3) := by decide +kernel
theorem d_X3_readPool_146 : decode cX3_readPool 146 = .ok (.iconst 0, 1) := by decide +kernel
theorem d_X3_readPool_147 : decode cX3_readPool 147 = .ok (.ireturn, 1) := by decide +kernel
theorem d_X3_readPool_148 : decode cX3_readPool 148 = .ok (.aload_n 1, 1) := by decide +kernel
theorem d_X3_readPool_149 : decode cX3_readPool 149 = .ok (.aload_n 0, 1) := by decide +kernel
theorem d_X3_readPool_150 : decode cX3_readPool 150 = .ok (.getfield 9, 3) := by decide +kernel
theorem d_X3_readPool_153 : decode cX3_readPool 153 = .ok (.getfield 76, 3) := by decide +kernel
theorem d_X3_readPool_156 : decode cX3_readPool 156 = .ok (.putfield 106, 3) := by decide +kernel
theorem d_X3_readPool_159 : decode cX3_readPool 159 = .ok (.aload_n 0, 1) := by decide +kernel
theorem d_X3_readPool_160 : decode cX3_readPool 160 = .ok (.getfield 9, 3) := by decide +kernel
theorem d_X3_readPool_163 : decode cX3_readPool 163 = .ok (.iconst 1, 1) := by decide +kernel
theorem d_X3_readPool_164 : decode cX3_readPool 164 = .ok (.sipush 9999, 3) := by decide +kernel
theorem d_X3_readPool_167 : decode cX3_readPool 167 = .ok (.invokevirtual 72, 3) := by decide +kernel
theorem d_X3_readPool_170 : decode cX3_readPool 170 = .ok (.ifCond .ne 5, 3) := by decide +kernel
theorem d_X3_readPool_173 : decode cX3_readPool 173 = .ok (.iconst 0, 1) := by decide +kernel
theorem d_X3_readPool_174 : decode cX3_readPool 174 = .ok (.ireturn, 1) := by decide +kernel
theorem d_X3_readPool_175 : decode cX3_readPool 175 = .ok (.aload_n 0, 1) := by decide +kernel
theorem d_X3_readPool_176 : decode cX3_readPool 176 = .ok (.getfield 9, 3) := by decide +kernel
theorem d_X3_readPool_179 : decode cX3_readPool 179 = .ok (.getfield 76, 3) := by decide +kernel
theorem d_X3_readPool_182 : decode cX3_readPool 182 = .ok (.istore_n 2, 1) := by decide +kernel
theorem d_X3_readPool_183 : decode cX3_readPool 183 = .ok (.aload_n 0, 1) := by decide +kernel
theorem d_X3_readPool_184 : decode cX3_readPool 184 = .ok (.getfield 9, 3) := by decide +kernel
theorem d_X3_readPool_187 : decode cX3_readPool 187 = .ok (.iconst 1, 1) := by decide +kernel
theorem d_X3_readPool_188 : decode cX3_readPool 188 = .ok (.sipush 9999, 3) := by decide +kernel
theorem d_X3_readPool_191 : decode cX3_readPool 191 = .ok (.invokevirtual 72, 3) := by decide +kernel
theorem d_X3_readPool_194 : decode cX3_readPool 194 = .ok (.ifCond .ne 5, 3) := by decide +kernel
theorem d_X3_readPool_197 : decode cX3_readPool 197 = .ok (.iconst 0, 1) := by decide +kernel
theorem d_X3_readPool_198 : decode cX3_readPool 198 = .ok (.ireturn, 1) := by decide +kernel
theorem d_X3_readPool_199 : decode cX3_readPool 199 = .ok (.aload_n 1, 1) := by decide +kernel
theorem d_X3_readPool_200 : decode cX3_readPool 200 = .ok (.iload_n 2, 1) := by decide +kernel
theorem d_X3_readPool_201 : decode cX3_readPool 201 = .ok (.aload_n 0, 1) := by decide +kernel
theorem d_X3_readPool_202 : decode cX3_readPool 202 = .ok (.getfield 9, 3) := by decide +kernel
theorem d_X3_readPool_205 : decode cX3_readPool 205 = .ok (.getfield 76, 3) := by decide +kernel
theorem d_X3_readPool_208 : decode cX3_readPool 208 = .ok (.invokevirtual 109, 3) := by decide +kernel
theorem d_X3_readPool_211 : decode cX3_readPool 211 = .ok (.iconst 1, 1) := by decide +kernel
theorem d_X3_readPool_212 : decode cX3_readPool 212 = .ok (.ireturn, 1) := by decide +kernel
def f_X3_readPool_32 (S : Mem) : Option (Int32 × Mem) := (some (0, S))
set_option maxRecDepth 20000 in
theorem t_X3_readPool_32 {X : MC} {Γ : GG} (C : CX X Γ cX3_readPool 3 "TickPools$MarketReader" 4 88) (hr : X.2.2.2.2.2.2.2.2.1.sig.returnType = some .boolean) {q : Int32 × Mem} (S : Mem) (hf : f_X3_readPool_32 S = some q) : ZZ X Γ 3 (QQ X Γ (some (aI q.1)) q.2) S 32 [] [] := by
  unfold f_X3_readPool_32 at hf
  refine z_iconst (v := 0) C d_X3_readPool_32 (by decide) ?_
  exact r_i C hr (by decide) d_X3_readPool_33 hf
def f_X3_readPool_183 (v1 : Nat) (v2 : Int32) (S : Mem) : Option (Int32 × Mem) := ((f_X9_readNumber 1 9999 S).bind fun q191 => (if q191.1 = 0 then (some (0, q191.2)) else (if kd v1 = (3, 12) then ((f_X4_open v1 v2 (gI q191.2 2 2) q191.2).bind fun q208 => (some (1, q208.2))) else none)))
set_option maxRecDepth 20000 in
theorem t_X3_readPool_183 {X : MC} {Γ : GG} (C : CX X Γ cX3_readPool 3 "TickPools$MarketReader" 4 88) (hr : X.2.2.2.2.2.2.2.2.1.sig.returnType = some .boolean) {q : Int32 × Mem} (v1 : Nat) (v2 : Int32) (S : Mem) (hf : f_X3_readPool_183 v1 v2 S = some q) : ZZ X Γ 3 (QQ X Γ (some (aI q.1)) q.2) S 183 [(0, aR 5), (1, aR v1), (2, aI v2)] [] := by
  unfold f_X3_readPool_183 at hf
  refine z_aload_n (j := 0) C d_X3_readPool_183 rfl ?_
  refine zg_X3_tape C rfl tw_295 d_X3_readPool_184 ?_
  refine z_iconst (v := 1) C d_X3_readPool_187 (by decide) ?_
  refine z_sipush (v := 9999) C d_X3_readPool_188 (by decide) ?_
  obtain ⟨q191, hF, hf⟩ := bd hf
  refine z_callV1 (rest := []) C [aI 1, aI 9999] rfl (by decide) rfl rfl k_X9_readNumber tw_600 ⟨by decide, by decide⟩ (Nat.le_of_ble_eq_true rfl) d_X3_readPool_191 (c_X9_readNumber C.inj hF) rfl ?_
  refine z_if_ne (tgt := 199) C d_X3_readPool_194 (by decide) hf (fun c194 hf => ?_) (fun c194 hf => ?_)
  · refine z_aload_n (j := 1) C d_X3_readPool_199 rfl ?_
    refine z_iload_n (j := 2) C d_X3_readPool_200 rfl ?_
    refine z_aload_n (j := 0) C d_X3_readPool_201 rfl ?_
    refine zg_X3_tape C rfl tw_295 d_X3_readPool_202 ?_
    refine zg_X9_value C rfl tw_37 d_X3_readPool_205 ?_
    obtain ⟨hg208_0, hf⟩ := gd hf
    obtain ⟨q208, hF, hf⟩ := bd hf
    refine z_callV0 (rest := []) C [aI v2, aI (gI q191.2 2 2)] hg208_0 (by decide) rfl rfl k_X4_open tw_620 ⟨by decide, by decide⟩ (Nat.le_of_ble_eq_true rfl) d_X3_readPool_208 (c_X4_open C.inj hF) rfl ?_
    refine z_iconst (v := 1) C d_X3_readPool_211 (by decide) ?_
    exact r_i C hr (by decide) d_X3_readPool_212 hf
  · refine z_iconst (v := 0) C d_X3_readPool_197 (by decide) ?_
    exact r_i C hr (by decide) d_X3_readPool_198 hf
/-- TickPools$MarketReader.readPool()Z -/
def f_X3_readPool (S : Mem) : Option (Int32 × Mem) := ((f_X2_newPool 143 S).bind fun q4 => (if q4.1 = 0 then (f_X3_readPool_32  q4.2) else ((f_X9_readNumber 0 ((gI q4.2 143 0) - 1) q4.2).bind fun q26 => (if q26.1 = 0 then (f_X3_readPool_32  q26.2) else (if kd q4.1 = (3, 12) then ((f_X9_readNumberBut ((gI (sI q26.2 q4.1 0 (gI q26.2 2 2)) 143 0) - 1) (gI (sI q26.2 q4.1 0 (gI q26.2 2 2)) q4.1 0) (sI q26.2 q4.1 0 (gI q26.2 2 2))).bind fun q62 => (if q62.1 = 0 then (some (0, q62.2)) else ((f_X9_readNumber 0 99 (sI q62.2 q4.1 1 (gI q62.2 2 2))).bind fun q88 => (if q88.1 = 0 then (some (0, q88.2)) else ((f_X9_readNumber 0 100 (sI q88.2 q4.1 2 (gI q88.2 2 2))).bind fun q114 => (if q114.1 = 0 then (some (0, q114.2)) else ((f_X9_readNumber 1 10 (sI q114.2 q4.1 3 (gI q114.2 2 2))).bind fun q140 => (if q140.1 = 0 then (some (0, q140.2)) else ((f_X9_readNumber 1 9999 (sI q140.2 q4.1 4 (gI q140.2 2 2))).bind fun q167 => (if q167.1 = 0 then (some (0, q167.2)) else (f_X3_readPool_183  q4.1 (gI q167.2 2 2) q167.2))))))))))) else none)))))
set_option maxRecDepth 20000 in
theorem c_X3_readPool {l : Launch} {Γ : GG} (hI : Inj Γ) {S : Mem} {q : Int32 × Mem} (hf : f_X3_readPool S = some q) : MM l Γ yX3_readPool cX3_readPool 3 (some .boolean) 4 88 [aR 5] S (some (aI q.1)) q.2 := by
  refine met_of hI "TickPools$MarketReader" rfl (by decide +kernel) (Nat.le_of_ble_eq_true rfl) (fun X hX C hr => ?_)
  unfold f_X3_readPool at hf
  show ZZ X Γ 3 _ S 0 [(0, aR 5)] []
  refine z_aload_n (j := 0) C d_X3_readPool_0 rfl ?_
  refine zg_X3_market C rfl tw_296 d_X3_readPool_1 ?_
  obtain ⟨q4, hF, hf⟩ := bd hf
  refine z_callV1 (rest := []) C [] rfl (by decide) rfl rfl k_X2_newPool tw_611 ⟨by decide, by decide⟩ (Nat.le_of_ble_eq_true rfl) d_X3_readPool_4 (c_X2_newPool C.inj hF) rfl ?_
  refine z_astore_n (lv' := [(1, aR q4.1), (0, aR 5)]) C d_X3_readPool_7 (by decide) rfl ?_
  refine z_aload_n (j := 0) C d_X3_readPool_8 rfl ?_
  refine z_ifnull (tgt := 32) C d_X3_readPool_9 (by decide) hf (fun c9 hf => ?_) (fun c9 hf => ?_)
  · exact z_sub [] rfl (t_X3_readPool_32 C hr  _ hf)
  · refine z_aload_n (j := 1) C d_X3_readPool_12 rfl ?_
    refine zg_X3_tape C rfl tw_295 d_X3_readPool_13 ?_
    refine z_iconst (v := 0) C d_X3_readPool_16 (by decide) ?_
    refine z_aload_n (j := 1) C d_X3_readPool_17 rfl ?_
    refine zg_X3_market C rfl tw_296 d_X3_readPool_18 ?_
    refine zg_X2_things C rfl tw_191 d_X3_readPool_21 ?_
    refine z_iconst (v := 1) C d_X3_readPool_24 (by decide) ?_
    refine z_isub C d_X3_readPool_25 ?_
    obtain ⟨q26, hF, hf⟩ := bd hf
    refine z_callV1 (rest := []) C [aI 0, aI ((gI q4.2 143 0) - 1)] rfl (by decide) rfl rfl k_X9_readNumber tw_600 ⟨by decide, by decide⟩ (Nat.le_of_ble_eq_true rfl) d_X3_readPool_26 (c_X9_readNumber C.inj hF) rfl ?_
    refine z_if_ne (tgt := 34) C d_X3_readPool_29 (by decide) hf (fun c29 hf => ?_) (fun c29 hf => ?_)
    · refine z_aload_n (j := 0) C d_X3_readPool_34 rfl ?_
      refine z_aload_n (j := 1) C d_X3_readPool_35 rfl ?_
      refine zg_X3_tape C rfl tw_295 d_X3_readPool_36 ?_
      refine zg_X9_value C rfl tw_37 d_X3_readPool_39 ?_
      obtain ⟨hg42_0, hf⟩ := gd hf
      refine zp_X4_first C hg42_0 tw_75 d_X3_readPool_42 ?_
      refine z_aload_n (j := 1) C d_X3_readPool_45 rfl ?_
      refine zg_X3_tape C rfl tw_295 d_X3_readPool_46 ?_
      refine z_aload_n (j := 1) C d_X3_readPool_49 rfl ?_
      refine zg_X3_market C rfl tw_296 d_X3_readPool_50 ?_
      refine zg_X2_things C rfl tw_191 d_X3_readPool_53 ?_
      refine z_iconst (v := 1) C d_X3_readPool_56 (by decide) ?_
      refine z_isub C d_X3_readPool_57 ?_
      refine z_aload_n (j := 0) C d_X3_readPool_58 rfl ?_
      refine zg_X4_first C hg42_0 tw_75 d_X3_readPool_59 ?_
      obtain ⟨q62, hF, hf⟩ := bd hf
      refine z_callV1 (rest := []) C [aI ((gI (sI q26.2 q4.1 0 (gI q26.2 2 2)) 143 0) - 1), aI (gI (sI q26.2 q4.1 0 (gI q26.2 2 2)) q4.1 0)] rfl (by decide) rfl rfl k_X9_readNumberBut tw_615 ⟨by decide, by decide⟩ (Nat.le_of_ble_eq_true rfl) d_X3_readPool_62 (c_X9_readNumberBut C.inj hF) rfl ?_
      refine z_if_ne (tgt := 70) C d_X3_readPool_65 (by decide) hf (fun c65 hf => ?_) (fun c65 hf => ?_)
      · refine z_aload_n (j := 0) C d_X3_readPool_70 rfl ?_
        refine z_aload_n (j := 1) C d_X3_readPool_71 rfl ?_
        refine zg_X3_tape C rfl tw_295 d_X3_readPool_72 ?_
        refine zg_X9_value C rfl tw_37 d_X3_readPool_75 ?_
        refine zp_X4_second C hg42_0 tw_79 d_X3_readPool_78 ?_
        refine z_aload_n (j := 1) C d_X3_readPool_81 rfl ?_
        refine zg_X3_tape C rfl tw_295 d_X3_readPool_82 ?_
        refine z_iconst (v := 0) C d_X3_readPool_85 (by decide) ?_
        refine z_bipush (v := 99) C d_X3_readPool_86 (by decide) ?_
        obtain ⟨q88, hF, hf⟩ := bd hf
        refine z_callV1 (rest := []) C [aI 0, aI 99] rfl (by decide) rfl rfl k_X9_readNumber tw_600 ⟨by decide, by decide⟩ (Nat.le_of_ble_eq_true rfl) d_X3_readPool_88 (c_X9_readNumber C.inj hF) rfl ?_
        refine z_if_ne (tgt := 96) C d_X3_readPool_91 (by decide) hf (fun c91 hf => ?_) (fun c91 hf => ?_)
        · refine z_aload_n (j := 0) C d_X3_readPool_96 rfl ?_
          refine z_aload_n (j := 1) C d_X3_readPool_97 rfl ?_
          refine zg_X3_tape C rfl tw_295 d_X3_readPool_98 ?_
          refine zg_X9_value C rfl tw_37 d_X3_readPool_101 ?_
          refine zp_X4_fee C hg42_0 tw_84 d_X3_readPool_104 ?_
          refine z_aload_n (j := 1) C d_X3_readPool_107 rfl ?_
          refine zg_X3_tape C rfl tw_295 d_X3_readPool_108 ?_
          refine z_iconst (v := 0) C d_X3_readPool_111 (by decide) ?_
          refine z_bipush (v := 100) C d_X3_readPool_112 (by decide) ?_
          obtain ⟨q114, hF, hf⟩ := bd hf
          refine z_callV1 (rest := []) C [aI 0, aI 100] rfl (by decide) rfl rfl k_X9_readNumber tw_600 ⟨by decide, by decide⟩ (Nat.le_of_ble_eq_true rfl) d_X3_readPool_114 (c_X9_readNumber C.inj hF) rfl ?_
          refine z_if_ne (tgt := 122) C d_X3_readPool_117 (by decide) hf (fun c117 hf => ?_) (fun c117 hf => ?_)
          · refine z_aload_n (j := 0) C d_X3_readPool_122 rfl ?_
            refine z_aload_n (j := 1) C d_X3_readPool_123 rfl ?_
            refine zg_X3_tape C rfl tw_295 d_X3_readPool_124 ?_
            refine zg_X9_value C rfl tw_37 d_X3_readPool_127 ?_
            refine zp_X4_cut C hg42_0 tw_88 d_X3_readPool_130 ?_
            refine z_aload_n (j := 1) C d_X3_readPool_133 rfl ?_
            refine zg_X3_tape C rfl tw_295 d_X3_readPool_134 ?_
            refine z_iconst (v := 1) C d_X3_readPool_137 (by decide) ?_
            refine z_bipush (v := 10) C d_X3_readPool_138 (by decide) ?_
            obtain ⟨q140, hF, hf⟩ := bd hf
            refine z_callV1 (rest := []) C [aI 1, aI 10] rfl (by decide) rfl rfl k_X9_readNumber tw_600 ⟨by decide, by decide⟩ (Nat.le_of_ble_eq_true rfl) d_X3_readPool_140 (c_X9_readNumber C.inj hF) rfl ?_
            refine z_if_ne (tgt := 148) C d_X3_readPool_143 (by decide) hf (fun c143 hf => ?_) (fun c143 hf => ?_)
            · refine z_aload_n (j := 0) C d_X3_readPool_148 rfl ?_
              refine z_aload_n (j := 1) C d_X3_readPool_149 rfl ?_
              refine zg_X3_tape C rfl tw_295 d_X3_readPool_150 ?_
              refine zg_X9_value C rfl tw_37 d_X3_readPool_153 ?_
              refine zp_X4_spacing C hg42_0 tw_92 d_X3_readPool_156 ?_
              refine z_aload_n (j := 1) C d_X3_readPool_159 rfl ?_
              refine zg_X3_tape C rfl tw_295 d_X3_readPool_160 ?_
              refine z_iconst (v := 1) C d_X3_readPool_163 (by decide) ?_
              refine z_sipush (v := 9999) C d_X3_readPool_164 (by decide) ?_
              obtain ⟨q167, hF, hf⟩ := bd hf
              refine z_callV1 (rest := []) C [aI 1, aI 9999] rfl (by decide) rfl rfl k_X9_readNumber tw_600 ⟨by decide, by decide⟩ (Nat.le_of_ble_eq_true rfl) d_X3_readPool_167 (c_X9_readNumber C.inj hF) rfl ?_
              refine z_if_ne (tgt := 175) C d_X3_readPool_170 (by decide) hf (fun c170 hf => ?_) (fun c170 hf => ?_)
              · refine z_aload_n (j := 1) C d_X3_readPool_175 rfl ?_
                refine zg_X3_tape C rfl tw_295 d_X3_readPool_176 ?_
                refine zg_X9_value C rfl tw_37 d_X3_readPool_179 ?_
                refine z_istore_n (lv' := [(2, aI (gI q167.2 2 2)), (1, aR q4.1), (0, aR 5)]) C d_X3_readPool_182 (by decide) rfl ?_
                exact z_sub [2, 1, 0] rfl (t_X3_readPool_183 C hr  _ _ _ hf)
              · refine z_iconst (v := 0) C d_X3_readPool_173 (by decide) ?_
                exact r_i C hr (by decide) d_X3_readPool_174 hf
            · refine z_iconst (v := 0) C d_X3_readPool_146 (by decide) ?_
              exact r_i C hr (by decide) d_X3_readPool_147 hf
          · refine z_iconst (v := 0) C d_X3_readPool_120 (by decide) ?_
            exact r_i C hr (by decide) d_X3_readPool_121 hf
        · refine z_iconst (v := 0) C d_X3_readPool_94 (by decide) ?_
          exact r_i C hr (by decide) d_X3_readPool_95 hf
      · refine z_iconst (v := 0) C d_X3_readPool_68 (by decide) ?_
        exact r_i C hr (by decide) d_X3_readPool_69 hf
    · exact z_sub [] rfl (t_X3_readPool_32 C hr  _ hf)
theorem d_X3_readPurse_0 : decode cX3_readPurse 0 = .ok (.aload_n 0, 1) := by decide +kernel
theorem d_X3_readPurse_1 : decode cX3_readPurse 1 = .ok (.getfield 9, 3) := by decide +kernel
theorem d_X3_readPurse_4 : decode cX3_readPurse 4 = .ok (.iconst 0, 1) := by decide +kernel
theorem d_X3_readPurse_5 : decode cX3_readPurse 5 = .ok (.aload_n 0, 1) := by decide +kernel
theorem d_X3_readPurse_6 : decode cX3_readPurse 6 = .ok (.getfield 15, 3) := by decide +kernel
theorem d_X3_readPurse_9 : decode cX3_readPurse 9 = .ok (.getfield 82, 3) := by decide +kernel
theorem d_X3_readPurse_12 : decode cX3_readPurse 12 = .ok (.iconst 1, 1) := by decide +kernel
theorem d_X3_readPurse_13 : decode cX3_readPurse 13 = .ok (.isub, 1) := by decide +kernel
theorem d_X3_readPurse_14 : decode cX3_readPurse 14 = .ok (.invokevirtual 72, 3) := by decide +kernel
theorem d_X3_readPurse_17 : decode cX3_readPurse 17 = .ok (.ifCond .ne 5, 3) := by decide +kernel
theorem d_X3_readPurse_20 : decode cX3_readPurse 20 = .ok (.iconst 0, 1) := by decide +kernel
theorem d_X3_readPurse_21 : decode cX3_readPurse 21 = .ok (.ireturn, 1) := by decide +kernel
theorem d_X3_readPurse_22 : decode cX3_readPurse 22 = .ok (.aload_n 0, 1) := by decide +kernel
theorem d_X3_readPurse_23 : decode cX3_readPurse 23 = .ok (.getfield 9, 3) := by decide +kernel
theorem d_X3_readPurse_26 : decode cX3_readPurse 26 = .ok (.getfield 76, 3) := by decide +kernel
theorem d_X3_readPurse_29 : decode cX3_readPurse 29 = .ok (.istore_n 1, 1) := by decide +kernel
theorem d_X3_readPurse_30 : decode cX3_readPurse 30 = .ok (.aload_n 0, 1) := by decide +kernel
theorem d_X3_readPurse_31 : decode cX3_readPurse 31 = .ok (.getfield 9, 3) := by decide +kernel
theorem d_X3_readPurse_34 : decode cX3_readPurse 34 = .ok (.iconst 0, 1) := by decide +kernel
theorem d_X3_readPurse_35 : decode cX3_readPurse 35 = .ok (.aload_n 0, 1) := by decide +kernel
theorem d_X3_readPurse_36 : decode cX3_readPurse 36 = .ok (.getfield 15, 3) := by decide +kernel
theorem d_X3_readPurse_39 : decode cX3_readPurse 39 = .ok (.getfield 79, 3) := by decide +kernel
theorem d_X3_readPurse_42 : decode cX3_readPurse 42 = .ok (.iconst 1, 1) := by decide +kernel
theorem d_X3_readPurse_43 : decode cX3_readPurse 43 = .ok (.isub, 1) := by decide +kernel
theorem d_X3_readPurse_44 : decode cX3_readPurse 44 = .ok (.invokevirtual 72, 3) := by decide +kernel
theorem d_X3_readPurse_47 : decode cX3_readPurse 47 = .ok (.ifCond .ne 5, 3) := by decide +kernel
theorem d_X3_readPurse_50 : decode cX3_readPurse 50 = .ok (.iconst 0, 1) := by decide +kernel
theorem d_X3_readPurse_51 : decode cX3_readPurse 51 = .ok (.ireturn, 1) := by decide +kernel
theorem d_X3_readPurse_52 : decode cX3_readPurse 52 = .ok (.aload_n 0, 1) := by decide +kernel
theorem d_X3_readPurse_53 : decode cX3_readPurse 53 = .ok (.getfield 9, 3) := by decide +kernel
theorem d_X3_readPurse_56 : decode cX3_readPurse 56 = .ok (.getfield 76, 3) := by decide +kernel
theorem d_X3_readPurse_59 : decode cX3_readPurse 59 = .ok (.istore_n 2, 1) := by decide +kernel
theorem d_X3_readPurse_60 : decode cX3_readPurse 60 = .ok (.aload_n 0, 1) := by decide +kernel
theorem d_X3_readPurse_61 : decode cX3_readPurse 61 = .ok (.getfield 9, 3) := by decide +kernel
theorem d_X3_readPurse_64 : decode cX3_readPurse 64 = .ok (.iconst 0, 1) := by decide +kernel
theorem d_X3_readPurse_65 : decode cX3_readPurse 65 = .ok (.ldc 113, 2) := by decide +kernel
theorem d_X3_readPurse_67 : decode cX3_readPurse 67 = .ok (.invokevirtual 72, 3) := by decide +kernel
theorem d_X3_readPurse_70 : decode cX3_readPurse 70 = .ok (.ifCond .ne 5, 3) := by decide +kernel
theorem d_X3_readPurse_73 : decode cX3_readPurse 73 = .ok (.iconst 0, 1) := by decide +kernel
theorem d_X3_readPurse_74 : decode cX3_readPurse 74 = .ok (.ireturn, 1) := by decide +kernel
theorem d_X3_readPurse_75 : decode cX3_readPurse 75 = .ok (.aload_n 0, 1) := by decide +kernel
theorem d_X3_readPurse_76 : decode cX3_readPurse 76 = .ok (.getfield 15, 3) := by decide +kernel
theorem d_X3_readPurse_79 : decode cX3_readPurse 79 = .ok (.iload_n 1, 1) := by decide +kernel
theorem d_X3_readPurse_80 : decode cX3_readPurse 80 = .ok (.iload_n 2, 1) := by decide +kernel
theorem d_X3_readPurse_81 : decode cX3_readPurse 81 = .ok (.aload_n 0, 1) := by decide +kernel
theorem d_X3_readPurse_82 : decode cX3_readPurse 82 = .ok (.getfield 9, 3) := by decide +kernel
theorem d_X3_readPurse_85 : decode cX3_readPurse 85 = .ok (.getfield 76, 3) := by decide +kernel
theorem d_X3_readPurse_88 : decode cX3_readPurse 88 = .ok (.aload_n 0, 1) := by decide +kernel
theorem d_X3_readPurse_89 : decode cX3_readPurse 89 = .ok (.getfield 15, 3) := by decide +kernel
theorem d_X3_readPurse_92 : decode cX3_readPurse 92 = .ok (.iload_n 1, 1) := by decide +kernel
theorem d_X3_readPurse_93 : decode cX3_readPurse 93 = .ok (.iload_n 2, 1) := by decide +kernel
theorem d_X3_readPurse_94 : decode cX3_readPurse 94 = .ok (.invokevirtual 114, 3) := by decide +kernel
theorem d_X3_readPurse_97 : decode cX3_readPurse 97 = .ok (.isub, 1) := by decide +kernel
theorem d_X3_readPurse_98 : decode cX3_readPurse 98 = .ok (.invokevirtual 118, 3) := by decide +kernel
theorem d_X3_readPurse_101 : decode cX3_readPurse 101 = .ok (.iconst 1, 1) := by decide +kernel
theorem d_X3_readPurse_102 : decode cX3_readPurse 102 = .ok (.ireturn, 1) := by decide +kernel
def f_X3_readPurse_60 (v1 : Int32) (v2 : Int32) (S : Mem) : Option (Int32 × Mem) := ((f_X9_readNumber 0 9999999 S).bind fun q67 => (if q67.1 = 0 then (some (0, q67.2)) else ((f_X2_purseOf 143 v1 v2 q67.2).bind fun q94 => ((f_X2_putIntoPurse 143 v1 v2 ((gI q67.2 2 2) - q94.1) q94.2).bind fun q98 => (some (1, q98.2))))))
set_option maxRecDepth 20000 in
theorem t_X3_readPurse_60 {X : MC} {Γ : GG} (C : CX X Γ cX3_readPurse 3 "TickPools$MarketReader" 3 65) (hr : X.2.2.2.2.2.2.2.2.1.sig.returnType = some .boolean) {q : Int32 × Mem} (v1 : Int32) (v2 : Int32) (S : Mem) (hf : f_X3_readPurse_60 v1 v2 S = some q) : ZZ X Γ 3 (QQ X Γ (some (aI q.1)) q.2) S 60 [(0, aR 5), (1, aI v1), (2, aI v2)] [] := by
  unfold f_X3_readPurse_60 at hf
  refine z_aload_n (j := 0) C d_X3_readPurse_60 rfl ?_
  refine zg_X3_tape C rfl tw_295 d_X3_readPurse_61 ?_
  refine z_iconst (v := 0) C d_X3_readPurse_64 (by decide) ?_
  refine z_ldc (v := 9999999) C tw_641 d_X3_readPurse_65 ?_
  obtain ⟨q67, hF, hf⟩ := bd hf
  refine z_callV1 (rest := []) C [aI 0, aI 9999999] rfl (by decide) rfl rfl k_X9_readNumber tw_600 ⟨by decide, by decide⟩ (Nat.le_of_ble_eq_true rfl) d_X3_readPurse_67 (c_X9_readNumber C.inj hF) rfl ?_
  refine z_if_ne (tgt := 75) C d_X3_readPurse_70 (by decide) hf (fun c70 hf => ?_) (fun c70 hf => ?_)
  · refine z_aload_n (j := 0) C d_X3_readPurse_75 rfl ?_
    refine zg_X3_market C rfl tw_296 d_X3_readPurse_76 ?_
    refine z_iload_n (j := 1) C d_X3_readPurse_79 rfl ?_
    refine z_iload_n (j := 2) C d_X3_readPurse_80 rfl ?_
    refine z_aload_n (j := 0) C d_X3_readPurse_81 rfl ?_
    refine zg_X3_tape C rfl tw_295 d_X3_readPurse_82 ?_
    refine zg_X9_value C rfl tw_37 d_X3_readPurse_85 ?_
    refine z_aload_n (j := 0) C d_X3_readPurse_88 rfl ?_
    refine zg_X3_market C rfl tw_296 d_X3_readPurse_89 ?_
    refine z_iload_n (j := 1) C d_X3_readPurse_92 rfl ?_
    refine z_iload_n (j := 2) C d_X3_readPurse_93 rfl ?_
    obtain ⟨q94, hF, hf⟩ := bd hf
    refine z_callV1 (rest := [aI (gI q67.2 2 2), aI v2, aI v1, aR 143]) C [aI v1, aI v2] rfl (by decide) rfl rfl k_X2_purseOf tw_642 ⟨by decide, by decide⟩ (Nat.le_of_ble_eq_true rfl) d_X3_readPurse_94 (c_X2_purseOf C.inj hF) rfl ?_
    refine z_isub C d_X3_readPurse_97 ?_
    obtain ⟨q98, hF, hf⟩ := bd hf
    refine z_callV0 (rest := []) C [aI v1, aI v2, aI ((gI q67.2 2 2) - q94.1)] rfl (by decide) rfl rfl k_X2_putIntoPurse tw_646 ⟨by decide, by decide⟩ (Nat.le_of_ble_eq_true rfl) d_X3_readPurse_98 (c_X2_putIntoPurse C.inj hF) rfl ?_
    refine z_iconst (v := 1) C d_X3_readPurse_101 (by decide) ?_
    exact r_i C hr (by decide) d_X3_readPurse_102 hf
  · refine z_iconst (v := 0) C d_X3_readPurse_73 (by decide) ?_
    exact r_i C hr (by decide) d_X3_readPurse_74 hf
def f_X3_readPurse_30 (v1 : Int32) (S : Mem) : Option (Int32 × Mem) := ((f_X9_readNumber 0 ((gI S 143 0) - 1) S).bind fun q44 => (if q44.1 = 0 then (some (0, q44.2)) else (f_X3_readPurse_60  v1 (gI q44.2 2 2) q44.2)))
set_option maxRecDepth 20000 in
theorem t_X3_readPurse_30 {X : MC} {Γ : GG} (C : CX X Γ cX3_readPurse 3 "TickPools$MarketReader" 3 65) (hr : X.2.2.2.2.2.2.2.2.1.sig.returnType = some .boolean) {q : Int32 × Mem} (v1 : Int32) (S : Mem) (hf : f_X3_readPurse_30 v1 S = some q) : ZZ X Γ 3 (QQ X Γ (some (aI q.1)) q.2) S 30 [(0, aR 5), (1, aI v1)] [] := by
  unfold f_X3_readPurse_30 at hf
  refine z_aload_n (j := 0) C d_X3_readPurse_30 rfl ?_
  refine zg_X3_tape C rfl tw_295 d_X3_readPurse_31 ?_
  refine z_iconst (v := 0) C d_X3_readPurse_34 (by decide) ?_
  refine z_aload_n (j := 0) C d_X3_readPurse_35 rfl ?_
  refine zg_X3_market C rfl tw_296 d_X3_readPurse_36 ?_
  refine zg_X2_things C rfl tw_191 d_X3_readPurse_39 ?_
  refine z_iconst (v := 1) C d_X3_readPurse_42 (by decide) ?_
  refine z_isub C d_X3_readPurse_43 ?_
  obtain ⟨q44, hF, hf⟩ := bd hf
  refine z_callV1 (rest := []) C [aI 0, aI ((gI S 143 0) - 1)] rfl (by decide) rfl rfl k_X9_readNumber tw_600 ⟨by decide, by decide⟩ (Nat.le_of_ble_eq_true rfl) d_X3_readPurse_44 (c_X9_readNumber C.inj hF) rfl ?_
  refine z_if_ne (tgt := 52) C d_X3_readPurse_47 (by decide) hf (fun c47 hf => ?_) (fun c47 hf => ?_)
  · refine z_aload_n (j := 0) C d_X3_readPurse_52 rfl ?_
    refine zg_X3_tape C rfl tw_295 d_X3_readPurse_53 ?_
    refine zg_X9_value C rfl tw_37 d_X3_readPurse_56 ?_
    refine z_istore_n (lv' := [(2, aI (gI q44.2 2 2)), (0, aR 5), (1, aI v1)]) C d_X3_readPurse_59 (by decide) rfl ?_
    exact z_sub [1, 2, 0] rfl (t_X3_readPurse_60 C hr  _ _ _ hf)
  · refine z_iconst (v := 0) C d_X3_readPurse_50 (by decide) ?_
    exact r_i C hr (by decide) d_X3_readPurse_51 hf
/-- TickPools$MarketReader.readPurse()Z -/
def f_X3_readPurse (S : Mem) : Option (Int32 × Mem) := ((f_X9_readNumber 0 ((gI S 143 1) - 1) S).bind fun q14 => (if q14.1 = 0 then (some (0, q14.2)) else (f_X3_readPurse_30  (gI q14.2 2 2) q14.2)))
set_option maxRecDepth 20000 in
theorem c_X3_readPurse {l : Launch} {Γ : GG} (hI : Inj Γ) {S : Mem} {q : Int32 × Mem} (hf : f_X3_readPurse S = some q) : MM l Γ yX3_readPurse cX3_readPurse 3 (some .boolean) 3 65 [aR 5] S (some (aI q.1)) q.2 := by
  refine met_of hI "TickPools$MarketReader" rfl (by decide +kernel) (Nat.le_of_ble_eq_true rfl) (fun X hX C hr => ?_)
  unfold f_X3_readPurse at hf
  show ZZ X Γ 3 _ S 0 [(0, aR 5)] []
  refine z_aload_n (j := 0) C d_X3_readPurse_0 rfl ?_
  refine zg_X3_tape C rfl tw_295 d_X3_readPurse_1 ?_
  refine z_iconst (v := 0) C d_X3_readPurse_4 (by decide) ?_
  refine z_aload_n (j := 0) C d_X3_readPurse_5 rfl ?_
  refine zg_X3_market C rfl tw_296 d_X3_readPurse_6 ?_
  refine zg_X2_people C rfl tw_194 d_X3_readPurse_9 ?_
  refine z_iconst (v := 1) C d_X3_readPurse_12 (by decide) ?_
  refine z_isub C d_X3_readPurse_13 ?_
  obtain ⟨q14, hF, hf⟩ := bd hf
  refine z_callV1 (rest := []) C [aI 0, aI ((gI S 143 1) - 1)] rfl (by decide) rfl rfl k_X9_readNumber tw_600 ⟨by decide, by decide⟩ (Nat.le_of_ble_eq_true rfl) d_X3_readPurse_14 (c_X9_readNumber C.inj hF) rfl ?_
  refine z_if_ne (tgt := 22) C d_X3_readPurse_17 (by decide) hf (fun c17 hf => ?_) (fun c17 hf => ?_)
  · refine z_aload_n (j := 0) C d_X3_readPurse_22 rfl ?_
    refine zg_X3_tape C rfl tw_295 d_X3_readPurse_23 ?_
    refine zg_X9_value C rfl tw_37 d_X3_readPurse_26 ?_
    refine z_istore_n (lv' := [(1, aI (gI q14.2 2 2)), (0, aR 5)]) C d_X3_readPurse_29 (by decide) rfl ?_
    exact z_sub [1, 0] rfl (t_X3_readPurse_30 C hr  _ _ hf)
  · refine z_iconst (v := 0) C d_X3_readPurse_20 (by decide) ?_
    exact r_i C hr (by decide) d_X3_readPurse_21 hf
theorem d_X3_readClause_0 : decode cX3_readClause 0 = .ok (.aload_n 0, 1) := by decide +kernel
theorem d_X3_readClause_1 : decode cX3_readClause 1 = .ok (.getfield 9, 3) := by decide +kernel
theorem d_X3_readClause_4 : decode cX3_readClause 4 = .ok (.invokevirtual 43, 3) := by decide +kernel
theorem d_X3_readClause_7 : decode cX3_readClause 7 = .ok (.ifCond .ne 5, 3) := by decide +kernel
theorem d_X3_readClause_10 : decode cX3_readClause 10 = .ok (.iconst 0, 1) := by decide +kernel
theorem d_X3_readClause_11 : decode cX3_readClause 11 = .ok (.ireturn, 1) := by decide +kernel
theorem d_X3_readClause_12 : decode cX3_readClause 12 = .ok (.aload_n 0, 1) := by decide +kernel
theorem d_X3_readClause_13 : decode cX3_readClause 13 = .ok (.getfield 9, 3) := by decide +kernel
theorem d_X3_readClause_16 : decode cX3_readClause 16 = .ok (.ldc 47, 2) := by decide +kernel
theorem d_X3_readClause_18 : decode cX3_readClause 18 = .ok (.invokevirtual 48, 3) := by decide +kernel
theorem d_X3_readClause_21 : decode cX3_readClause 21 = .ok (.istore_n 2, 1) := by decide +kernel
theorem d_X3_readClause_22 : decode cX3_readClause 22 = .ok (.aload_n 0, 1) := by decide +kernel
theorem d_X3_readClause_23 : decode cX3_readClause 23 = .ok (.getfield 9, 3) := by decide +kernel
theorem d_X3_readClause_26 : decode cX3_readClause 26 = .ok (.ldc 52, 2) := by decide +kernel
theorem d_X3_readClause_28 : decode cX3_readClause 28 = .ok (.invokevirtual 48, 3) := by decide +kernel
theorem d_X3_readClause_31 : decode cX3_readClause 31 = .ok (.istore_n 3, 1) := by decide +kernel
theorem d_X3_readClause_32 : decode cX3_readClause 32 = .ok (.iload_n 2, 1) := by decide +kernel
theorem d_X3_readClause_33 : decode cX3_readClause 33 = .ok (.ifCond .ne 28, 3) := by decide +kernel
theorem d_X3_readClause_36 : decode cX3_readClause 36 = .ok (.iload_n 3, 1) := by decide +kernel
theorem d_X3_readClause_37 : decode cX3_readClause 37 = .ok (.ifCond .ne 24, 3) := by decide +kernel
theorem d_X3_readClause_40 : decode cX3_readClause 40 = .ok (.aload_n 0, 1) := by decide +kernel
theorem d_X3_readClause_41 : decode cX3_readClause 41 = .ok (.getfield 9, 3) := by decide +kernel
theorem d_X3_readClause_44 : decode cX3_readClause 44 = .ok (.ldc 54, 2) := by decide +kernel
theorem d_X3_readClause_46 : decode cX3_readClause 46 = .ok (.invokevirtual 48, 3) := by decide +kernel
theorem d_X3_readClause_49 : decode cX3_readClause 49 = .ok (.ifCond .ne 12, 3) := by decide +kernel
theorem d_X3_readClause_52 : decode cX3_readClause 52 = .ok (.aload_n 0, 1) := by decide +kernel
theorem d_X3_readClause_53 : decode cX3_readClause 53 = .ok (.getfield 9, 3) := by decide +kernel
theorem d_X3_readClause_56 : decode cX3_readClause 56 = .ok (.iconst 0, 1) := by decide +kernel
theorem d_X3_readClause_57 : decode cX3_readClause 57 = .ok (.invokevirtual 56, 3) := by decide +kernel
theorem d_X3_readClause_60 : decode cX3_readClause 60 = .ok (.ireturn, 1) := by decide +kernel
theorem d_X3_readClause_61 : decode cX3_readClause 61 = .ok (.iload_n 3, 1) := by decide +kernel
theorem d_X3_readClause_62 : decode cX3_readClause 62 = .ok (.ifCond .eq 18, 3) := by decide +kernel
theorem d_X3_readClause_65 : decode cX3_readClause 65 = .ok (.aload_n 0, 1) := by decide +kernel
theorem d_X3_readClause_66 : decode cX3_readClause 66 = .ok (.getfield 15, 3) := by decide +kernel
theorem d_X3_readClause_69 : decode cX3_readClause 69 = .ok (.getfield 59, 3) := by decide +kernel
theorem d_X3_readClause_72 : decode cX3_readClause 72 = .ok (.iconst 5, 1) := by decide +kernel
theorem d_X3_readClause_73 : decode cX3_readClause 73 = .ok (.if_icmp .lt 7, 3) := by decide +kernel
theorem d_X3_readClause_76 : decode cX3_readClause 76 = .ok (.iconst 1, 1) := by decide +kernel
theorem d_X3_readClause_77 : decode cX3_readClause 77 = .ok (.goto 4, 3) := by decide +kernel
theorem d_X3_readClause_80 : decode cX3_readClause 80 = .ok (.iconst 0, 1) := by decide +kernel
theorem d_X3_readClause_81 : decode cX3_readClause 81 = .ok (.istore 4, 2) := by decide +kernel
theorem d_X3_readClause_83 : decode cX3_readClause 83 = .ok (.iload_n 1, 1) := by decide +kernel
theorem d_X3_readClause_84 : decode cX3_readClause 84 = .ok (.bipush 30, 2) := by decide +kernel
theorem d_X3_readClause_86 : decode cX3_readClause 86 = .ok (.if_icmp .ge 21, 3) := by decide +kernel
theorem d_X3_readClause_89 : decode cX3_readClause 89 = .ok (.iload_n 2, 1) := by decide +kernel
theorem d_X3_readClause_90 : decode cX3_readClause 90 = .ok (.iload_n 1, 1) := by decide +kernel
theorem d_X3_readClause_91 : decode cX3_readClause 91 = .ok (.ifCond .ne 7, 3) := by decide +kernel
theorem d_X3_readClause_94 : decode cX3_readClause 94 = .ok (.iconst 1, 1) := by decide +kernel
theorem d_X3_readClause_95 : decode cX3_readClause 95 = .ok (.goto 4, 3) := by decide +kernel
theorem d_X3_readClause_98 : decode cX3_readClause 98 = .ok (.iconst 0, 1) := by decide +kernel
theorem d_X3_readClause_99 : decode cX3_readClause 99 = .ok (.if_icmp .ne 8, 3) := by decide +kernel
theorem d_X3_readClause_102 : decode cX3_readClause 102 = .ok (.iload 4, 2) := by decide +kernel
theorem d_X3_readClause_104 : decode cX3_readClause 104 = .ok (.ifCond .eq 12, 3) := by decide +kernel
theorem d_X3_readClause_107 : decode cX3_readClause 107 = .ok (.aload_n 0, 1) := by decide +kernel
theorem d_X3_readClause_108 : decode cX3_readClause 108 = .ok (.getfield 9, 3) := by decide +kernel
theorem d_X3_readClause_111 : decode cX3_readClause 111 = .ok (.iconst 2, 1) := by decide +kernel
theorem d_X3_readClause_112 : decode cX3_readClause 112 = .ok (.invokevirtual 56, 3) := by decide +kernel
theorem d_X3_readClause_115 : decode cX3_readClause 115 = .ok (.ireturn, 1) := by decide +kernel
theorem d_X3_readClause_116 : decode cX3_readClause 116 = .ok (.iload_n 2, 1) := by decide +kernel
theorem d_X3_readClause_117 : decode cX3_readClause 117 = .ok (.ifCond .eq 8, 3) := by decide +kernel
theorem d_X3_readClause_120 : decode cX3_readClause 120 = .ok (.aload_n 0, 1) := by decide +kernel
theorem d_X3_readClause_121 : decode cX3_readClause 121 = .ok (.invokevirtual 63, 3) := by decide +kernel
theorem d_X3_readClause_124 : decode cX3_readClause 124 = .ok (.ireturn, 1) := by decide +kernel
theorem d_X3_readClause_125 : decode cX3_readClause 125 = .ok (.iload_n 3, 1) := by decide +kernel
theorem d_X3_readClause_126 : decode cX3_readClause 126 = .ok (.ifCond .eq 10, 3) := by decide +kernel
theorem d_X3_readClause_129 : decode cX3_readClause 129 = .ok (.aload_n 0, 1) := by decide +kernel
theorem d_X3_readClause_130 : decode cX3_readClause 130 = .ok (.invokevirtual 66, 3) := by decide +kernel
theorem d_X3_readClause_133 : decode cX3_readClause 133 = .ok (.goto 7, 3) := by decide +kernel
theorem d_X3_readClause_136 : decode cX3_readClause 136 = .ok (.aload_n 0, 1) := by decide +kernel
theorem d_X3_readClause_137 : decode cX3_readClause 137 = .ok (.invokevirtual 69, 3) := by decide +kernel
theorem d_X3_readClause_140 : decode cX3_readClause 140 = .ok (.ireturn, 1) := by decide +kernel
def f_X3_readClause_107 (S : Mem) : Option (Int32 × Mem) := ((f_X9_blameWord 2 S).bind fun q112 => (if isB q112.1 = true then (some (q112.1, q112.2)) else none))
set_option maxRecDepth 20000 in
theorem t_X3_readClause_107 {X : MC} {Γ : GG} (C : CX X Γ cX3_readClause 5 "TickPools$MarketReader" 5 110) (hr : X.2.2.2.2.2.2.2.2.1.sig.returnType = some .boolean) {q : Int32 × Mem} (S : Mem) (hf : f_X3_readClause_107 S = some q) : ZZ X Γ 5 (QQ X Γ (some (aI q.1)) q.2) S 107 [(0, aR 5)] [] := by
  unfold f_X3_readClause_107 at hf
  refine z_aload_n (j := 0) C d_X3_readClause_107 rfl ?_
  refine zg_X3_tape C rfl tw_295 d_X3_readClause_108 ?_
  refine z_iconst (v := 2) C d_X3_readClause_111 (by decide) ?_
  obtain ⟨q112, hF, hf⟩ := bd hf
  refine z_callV1 (rest := []) C [aI 2] rfl (by decide) rfl rfl k_X9_blameWord tw_592 ⟨by decide, by decide⟩ (Nat.le_of_ble_eq_true rfl) d_X3_readClause_112 (c_X9_blameWord C.inj hF) rfl ?_
  obtain ⟨hb115_1, hf⟩ := gd hf
  exact r_i C hr (isB_nar hb115_1).1 d_X3_readClause_115 hf
def f_X3_readClause_140 (s0 : Int32) (S : Mem) : Option (Int32 × Mem) := (if isB s0 = true then (some (s0, S)) else none)
set_option maxRecDepth 20000 in
theorem t_X3_readClause_140 {X : MC} {Γ : GG} (C : CX X Γ cX3_readClause 5 "TickPools$MarketReader" 5 110) (hr : X.2.2.2.2.2.2.2.2.1.sig.returnType = some .boolean) {q : Int32 × Mem} (s0 : Int32) (S : Mem) (hf : f_X3_readClause_140 s0 S = some q) : ZZ X Γ 5 (QQ X Γ (some (aI q.1)) q.2) S 140 [] [aI s0] := by
  unfold f_X3_readClause_140 at hf
  obtain ⟨hb140_0, hf⟩ := gd hf
  exact r_i C hr (isB_nar hb140_0).1 d_X3_readClause_140 hf
def f_X3_readClause_99 (v2 : Int32) (v3 : Int32) (v4 : Int32) (s0 : Int32) (s1 : Int32) (S : Mem) : Option (Int32 × Mem) := (if s1 = s0 then (if v4 = 0 then (if v2 = 0 then (if v3 = 0 then ((f_X3_readPurse S).bind fun q137 => (f_X3_readClause_140  q137.1 q137.2)) else ((f_X3_readPool S).bind fun q130 => (f_X3_readClause_140  q130.1 q130.2))) else ((f_X3_readSizes S).bind fun q121 => (if isB q121.1 = true then (some (q121.1, q121.2)) else none))) else (f_X3_readClause_107  S)) else (f_X3_readClause_107  S))
set_option maxRecDepth 20000 in
theorem t_X3_readClause_99 {X : MC} {Γ : GG} (C : CX X Γ cX3_readClause 5 "TickPools$MarketReader" 5 110) (hr : X.2.2.2.2.2.2.2.2.1.sig.returnType = some .boolean) {q : Int32 × Mem} (v2 : Int32) (v3 : Int32) (v4 : Int32) (s0 : Int32) (s1 : Int32) (S : Mem) (hf : f_X3_readClause_99 v2 v3 v4 s0 s1 S = some q) : ZZ X Γ 5 (QQ X Γ (some (aI q.1)) q.2) S 99 [(0, aR 5), (2, aI v2), (3, aI v3), (4, aI v4)] [aI s0, aI s1] := by
  unfold f_X3_readClause_99 at hf
  refine z_icmp_ne (tgt := 107) C d_X3_readClause_99 (by decide) hf (fun c99 hf => ?_) (fun c99 hf => ?_)
  · exact z_sub [0] rfl (t_X3_readClause_107 C hr  _ hf)
  · refine z_iload (j := 3) C d_X3_readClause_102 rfl ?_
    refine z_if_eq (tgt := 116) C d_X3_readClause_104 (by decide) hf (fun c104 hf => ?_) (fun c104 hf => ?_)
    · refine z_iload_n (j := 1) C d_X3_readClause_116 rfl ?_
      refine z_if_eq (tgt := 125) C d_X3_readClause_117 (by decide) hf (fun c117 hf => ?_) (fun c117 hf => ?_)
      · refine z_iload_n (j := 2) C d_X3_readClause_125 rfl ?_
        refine z_if_eq (tgt := 136) C d_X3_readClause_126 (by decide) hf (fun c126 hf => ?_) (fun c126 hf => ?_)
        · refine z_aload_n (j := 0) C d_X3_readClause_136 rfl ?_
          obtain ⟨q137, hF, hf⟩ := bd hf
          refine z_callV1 (rest := []) C [] rfl (by decide) rfl rfl k_X3_readPurse tw_637 ⟨by decide, by decide⟩ (Nat.le_of_ble_eq_true rfl) d_X3_readClause_137 (c_X3_readPurse C.inj hF) rfl ?_
          exact z_sub [] rfl (t_X3_readClause_140 C hr  _ _ hf)
        · refine z_aload_n (j := 0) C d_X3_readClause_129 rfl ?_
          obtain ⟨q130, hF, hf⟩ := bd hf
          refine z_callV1 (rest := []) C [] rfl (by decide) rfl rfl k_X3_readPool tw_607 ⟨by decide, by decide⟩ (Nat.le_of_ble_eq_true rfl) d_X3_readClause_130 (c_X3_readPool C.inj hF) rfl ?_
          refine z_goto (tgt := 140) C d_X3_readClause_133 (by decide) ?_
          exact z_sub [] rfl (t_X3_readClause_140 C hr  _ _ hf)
      · refine z_aload_n (j := 0) C d_X3_readClause_120 rfl ?_
        obtain ⟨q121, hF, hf⟩ := bd hf
        refine z_callV1 (rest := []) C [] rfl (by decide) rfl rfl k_X3_readSizes tw_596 ⟨by decide, by decide⟩ (Nat.le_of_ble_eq_true rfl) d_X3_readClause_121 (c_X3_readSizes C.inj hF) rfl ?_
        obtain ⟨hb124_1, hf⟩ := gd hf
        exact r_i C hr (isB_nar hb124_1).1 d_X3_readClause_124 hf
    · exact z_sub [0] rfl (t_X3_readClause_107 C hr  _ hf)
def f_X3_readClause_81 (v1 : Int32) (v2 : Int32) (v3 : Int32) (s0 : Int32) (S : Mem) : Option (Int32 × Mem) := (if 30 ≤ v1 then (f_X3_readClause_107  S) else (if v1 = 0 then (f_X3_readClause_99  v2 v3 s0 1 v2 S) else (f_X3_readClause_99  v2 v3 s0 0 v2 S)))
set_option maxRecDepth 20000 in
theorem t_X3_readClause_81 {X : MC} {Γ : GG} (C : CX X Γ cX3_readClause 5 "TickPools$MarketReader" 5 110) (hr : X.2.2.2.2.2.2.2.2.1.sig.returnType = some .boolean) {q : Int32 × Mem} (v1 : Int32) (v2 : Int32) (v3 : Int32) (s0 : Int32) (S : Mem) (hf : f_X3_readClause_81 v1 v2 v3 s0 S = some q) : ZZ X Γ 5 (QQ X Γ (some (aI q.1)) q.2) S 81 [(0, aR 5), (1, aI v1), (2, aI v2), (3, aI v3)] [aI s0] := by
  unfold f_X3_readClause_81 at hf
  refine z_istore (lv' := [(4, aI s0), (0, aR 5), (1, aI v1), (2, aI v2), (3, aI v3)]) C d_X3_readClause_81 (by decide) rfl ?_
  refine z_iload_n (j := 2) C d_X3_readClause_83 rfl ?_
  refine z_bipush (v := 30) C d_X3_readClause_84 (by decide) ?_
  refine z_icmp_ge (tgt := 107) C d_X3_readClause_86 (by decide) hf (fun c86 hf => ?_) (fun c86 hf => ?_)
  · exact z_sub [1] rfl (t_X3_readClause_107 C hr  _ hf)
  · refine z_iload_n (j := 3) C d_X3_readClause_89 rfl ?_
    refine z_iload_n (j := 2) C d_X3_readClause_90 rfl ?_
    refine z_if_ne (tgt := 98) C d_X3_readClause_91 (by decide) hf (fun c91 hf => ?_) (fun c91 hf => ?_)
    · refine z_iconst (v := 0) C d_X3_readClause_98 (by decide) ?_
      exact z_sub [1, 3, 4, 0] rfl (t_X3_readClause_99 C hr  _ _ _ _ _ _ hf)
    · refine z_iconst (v := 1) C d_X3_readClause_94 (by decide) ?_
      refine z_goto (tgt := 99) C d_X3_readClause_95 (by decide) ?_
      exact z_sub [1, 3, 4, 0] rfl (t_X3_readClause_99 C hr  _ _ _ _ _ _ hf)
def f_X3_readClause_80 (v1 : Int32) (v2 : Int32) (v3 : Int32) (S : Mem) : Option (Int32 × Mem) := (f_X3_readClause_81  v1 v2 v3 0 S)
set_option maxRecDepth 20000 in
theorem t_X3_readClause_80 {X : MC} {Γ : GG} (C : CX X Γ cX3_readClause 5 "TickPools$MarketReader" 5 110) (hr : X.2.2.2.2.2.2.2.2.1.sig.returnType = some .boolean) {q : Int32 × Mem} (v1 : Int32) (v2 : Int32) (v3 : Int32) (S : Mem) (hf : f_X3_readClause_80 v1 v2 v3 S = some q) : ZZ X Γ 5 (QQ X Γ (some (aI q.1)) q.2) S 80 [(0, aR 5), (1, aI v1), (2, aI v2), (3, aI v3)] [] := by
  unfold f_X3_readClause_80 at hf
  refine z_iconst (v := 0) C d_X3_readClause_80 (by decide) ?_
  exact z_sub [0, 1, 2, 3] rfl (t_X3_readClause_81 C hr  _ _ _ _ _ hf)
def f_X3_readClause_61 (v1 : Int32) (v2 : Int32) (v3 : Int32) (S : Mem) : Option (Int32 × Mem) := (if v3 = 0 then (f_X3_readClause_80  v1 v2 v3 S) else (if (gI S 143 2) < 5 then (f_X3_readClause_80  v1 v2 v3 S) else (f_X3_readClause_81  v1 v2 v3 1 S)))
set_option maxRecDepth 20000 in
theorem t_X3_readClause_61 {X : MC} {Γ : GG} (C : CX X Γ cX3_readClause 5 "TickPools$MarketReader" 5 110) (hr : X.2.2.2.2.2.2.2.2.1.sig.returnType = some .boolean) {q : Int32 × Mem} (v1 : Int32) (v2 : Int32) (v3 : Int32) (S : Mem) (hf : f_X3_readClause_61 v1 v2 v3 S = some q) : ZZ X Γ 5 (QQ X Γ (some (aI q.1)) q.2) S 61 [(0, aR 5), (1, aI v1), (2, aI v2), (3, aI v3)] [] := by
  unfold f_X3_readClause_61 at hf
  refine z_iload_n (j := 3) C d_X3_readClause_61 rfl ?_
  refine z_if_eq (tgt := 80) C d_X3_readClause_62 (by decide) hf (fun c62 hf => ?_) (fun c62 hf => ?_)
  · exact z_sub [0, 1, 2, 3] rfl (t_X3_readClause_80 C hr  _ _ _ _ hf)
  · refine z_aload_n (j := 0) C d_X3_readClause_65 rfl ?_
    refine zg_X3_market C rfl tw_296 d_X3_readClause_66 ?_
    refine zg_X2_pools C rfl tw_197 d_X3_readClause_69 ?_
    refine z_iconst (v := 5) C d_X3_readClause_72 (by decide) ?_
    refine z_icmp_lt (tgt := 80) C d_X3_readClause_73 (by decide) hf (fun c73 hf => ?_) (fun c73 hf => ?_)
    · exact z_sub [0, 1, 2, 3] rfl (t_X3_readClause_80 C hr  _ _ _ _ hf)
    · refine z_iconst (v := 1) C d_X3_readClause_76 (by decide) ?_
      refine z_goto (tgt := 81) C d_X3_readClause_77 (by decide) ?_
      exact z_sub [0, 1, 2, 3] rfl (t_X3_readClause_81 C hr  _ _ _ _ _ hf)
/-- TickPools$MarketReader.readClause(I)Z -/
def f_X3_readClause (p1 : Int32) (S : Mem) : Option (Int32 × Mem) := ((f_X9_readWord S).bind fun q4 => (if q4.1 = 0 then (some (0, q4.2)) else ((f_X9_wordIs 301 q4.2).bind fun q18 => ((f_X9_wordIs 302 q18.2).bind fun q28 => (if q18.1 = 0 then (if q28.1 = 0 then ((f_X9_wordIs 303 q28.2).bind fun q46 => (if q46.1 = 0 then ((f_X9_blameWord 0 q46.2).bind fun q57 => (if isB q57.1 = true then (some (q57.1, q57.2)) else none)) else (f_X3_readClause_61  p1 q18.1 q28.1 q46.2))) else (f_X3_readClause_61  p1 q18.1 q28.1 q28.2)) else (f_X3_readClause_61  p1 q18.1 q28.1 q28.2))))))
set_option maxRecDepth 20000 in
theorem c_X3_readClause {l : Launch} {Γ : GG} (hI : Inj Γ) {p1 : Int32} {S : Mem} {q : Int32 × Mem} (hf : f_X3_readClause p1 S = some q) : MM l Γ yX3_readClause cX3_readClause 5 (some .boolean) 5 110 [aR 5, aI p1] S (some (aI q.1)) q.2 := by
  refine met_of hI "TickPools$MarketReader" rfl (by decide +kernel) (Nat.le_of_ble_eq_true rfl) (fun X hX C hr => ?_)
  unfold f_X3_readClause at hf
  show ZZ X Γ 5 _ S 0 [(0, aR 5), (1, aI p1)] []
  refine z_aload_n (j := 0) C d_X3_readClause_0 rfl ?_
  refine zg_X3_tape C rfl tw_295 d_X3_readClause_1 ?_
  obtain ⟨q4, hF, hf⟩ := bd hf
  refine z_callV1 (rest := []) C [] rfl (by decide) rfl rfl k_X9_readWord tw_521 ⟨by decide, by decide⟩ (Nat.le_of_ble_eq_true rfl) d_X3_readClause_4 (c_X9_readWord C.inj hF) rfl ?_
  refine z_if_ne (tgt := 12) C d_X3_readClause_7 (by decide) hf (fun c7 hf => ?_) (fun c7 hf => ?_)
  · refine z_aload_n (j := 0) C d_X3_readClause_12 rfl ?_
    refine zg_X3_tape C rfl tw_295 d_X3_readClause_13 ?_
    refine z_ldcS (i := 0) C rfl d_X3_readClause_16 ?_
    obtain ⟨q18, hF, hf⟩ := bd hf
    refine z_callV1 (rest := []) C [aR 301] rfl (by decide) rfl rfl k_X9_wordIs tw_538 ⟨by decide, by decide⟩ (Nat.le_of_ble_eq_true rfl) d_X3_readClause_18 (c_X9_wordIs C.inj hF) rfl ?_
    refine z_istore_n (lv' := [(2, aI q18.1), (0, aR 5), (1, aI p1)]) C d_X3_readClause_21 (by decide) rfl ?_
    refine z_aload_n (j := 1) C d_X3_readClause_22 rfl ?_
    refine zg_X3_tape C rfl tw_295 d_X3_readClause_23 ?_
    refine z_ldcS (i := 1) C rfl d_X3_readClause_26 ?_
    obtain ⟨q28, hF, hf⟩ := bd hf
    refine z_callV1 (rest := []) C [aR 302] rfl (by decide) rfl rfl k_X9_wordIs tw_538 ⟨by decide, by decide⟩ (Nat.le_of_ble_eq_true rfl) d_X3_readClause_28 (c_X9_wordIs C.inj hF) rfl ?_
    refine z_istore_n (lv' := [(3, aI q28.1), (2, aI q18.1), (0, aR 5), (1, aI p1)]) C d_X3_readClause_31 (by decide) rfl ?_
    refine z_iload_n (j := 1) C d_X3_readClause_32 rfl ?_
    refine z_if_ne (tgt := 61) C d_X3_readClause_33 (by decide) hf (fun c33 hf => ?_) (fun c33 hf => ?_)
    · exact z_sub [2, 3, 1, 0] rfl (t_X3_readClause_61 C hr  _ _ _ _ hf)
    · refine z_iload_n (j := 0) C d_X3_readClause_36 rfl ?_
      refine z_if_ne (tgt := 61) C d_X3_readClause_37 (by decide) hf (fun c37 hf => ?_) (fun c37 hf => ?_)
      · exact z_sub [2, 3, 1, 0] rfl (t_X3_readClause_61 C hr  _ _ _ _ hf)
      · refine z_aload_n (j := 2) C d_X3_readClause_40 rfl ?_
        refine zg_X3_tape C rfl tw_295 d_X3_readClause_41 ?_
        refine z_ldcS (i := 2) C rfl d_X3_readClause_44 ?_
        obtain ⟨q46, hF, hf⟩ := bd hf
        refine z_callV1 (rest := []) C [aR 303] rfl (by decide) rfl rfl k_X9_wordIs tw_538 ⟨by decide, by decide⟩ (Nat.le_of_ble_eq_true rfl) d_X3_readClause_46 (c_X9_wordIs C.inj hF) rfl ?_
        refine z_if_ne (tgt := 61) C d_X3_readClause_49 (by decide) hf (fun c49 hf => ?_) (fun c49 hf => ?_)
        · exact z_sub [2, 3, 1, 0] rfl (t_X3_readClause_61 C hr  _ _ _ _ hf)
        · refine z_aload_n (j := 2) C d_X3_readClause_52 rfl ?_
          refine zg_X3_tape C rfl tw_295 d_X3_readClause_53 ?_
          refine z_iconst (v := 0) C d_X3_readClause_56 (by decide) ?_
          obtain ⟨q57, hF, hf⟩ := bd hf
          refine z_callV1 (rest := []) C [aI 0] rfl (by decide) rfl rfl k_X9_blameWord tw_592 ⟨by decide, by decide⟩ (Nat.le_of_ble_eq_true rfl) d_X3_readClause_57 (c_X9_blameWord C.inj hF) rfl ?_
          obtain ⟨hb60_1, hf⟩ := gd hf
          exact r_i C hr (isB_nar hb60_1).1 d_X3_readClause_60 hf
  · refine z_iconst (v := 0) C d_X3_readClause_10 (by decide) ?_
    exact r_i C hr (by decide) d_X3_readClause_11 hf
