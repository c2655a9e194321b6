theorem d_X12_swaps_0 : decode cX12_swaps 0 = .ok (.aload_n 0, 1) := by decide +kernel
theorem d_X12_swaps_1 : decode cX12_swaps 1 = .ok (.lload_n 3, 1) := by decide +kernel
theorem d_X12_swaps_2 : decode cX12_swaps 2 = .ok (.putfield 326, 3) := by decide +kernel
theorem d_X12_swaps_5 : decode cX12_swaps 5 = .ok (.aload_n 0, 1) := by decide +kernel
theorem d_X12_swaps_6 : decode cX12_swaps 6 = .ok (.lconst 0, 1) := by decide +kernel
theorem d_X12_swaps_7 : decode cX12_swaps 7 = .ok (.putfield 349, 3) := by decide +kernel
theorem d_X12_swaps_10 : decode cX12_swaps 10 = .ok (.aload_n 0, 1) := by decide +kernel
theorem d_X12_swaps_11 : decode cX12_swaps 11 = .ok (.lconst 0, 1) := by decide +kernel
theorem d_X12_swaps_12 : decode cX12_swaps 12 = .ok (.putfield 352, 3) := by decide +kernel
theorem d_X12_swaps_15 : decode cX12_swaps 15 = .ok (.aload_n 0, 1) := by decide +kernel
theorem d_X12_swaps_16 : decode cX12_swaps 16 = .ok (.lconst 0, 1) := by decide +kernel
theorem d_X12_swaps_17 : decode cX12_swaps 17 = .ok (.putfield 355, 3) := by decide +kernel
theorem d_X12_swaps_20 : decode cX12_swaps 20 = .ok (.aload_n 0, 1) := by decide +kernel
theorem d_X12_swaps_21 : decode cX12_swaps 21 = .ok (.iconst 0, 1) := by decide +kernel
theorem d_X12_swaps_22 : decode cX12_swaps 22 = .ok (.putfield 362, 3) := by decide +kernel
theorem d_X12_swaps_25 : decode cX12_swaps 25 = .ok (.iload_n 2, 1) := by decide +kernel
theorem d_X12_swaps_26 : decode cX12_swaps 26 = .ok (.ifCond .ne 21, 3) := by decide +kernel
theorem d_X12_swaps_29 : decode cX12_swaps 29 = .ok (.iload 5, 2) := by decide +kernel
theorem d_X12_swaps_31 : decode cX12_swaps 31 = .ok (.aload_n 0, 1) := by decide +kernel
theorem d_X12_swaps_32 : decode cX12_swaps 32 = .ok (.iload_n 1, 1) := by decide +kernel
theorem d_X12_swaps_33 : decode cX12_swaps 33 = .ok (.invokevirtual 228, 3) := by decide +kernel
theorem d_X12_swaps_36 : decode cX12_swaps 36 = .ok (.if_icmp .le 7, 3) := by decide +kernel
theorem d_X12_swaps_39 : decode cX12_swaps 39 = .ok (.iconst 1, 1) := by decide +kernel
theorem d_X12_swaps_40 : decode cX12_swaps 40 = .ok (.goto 22, 3) := by decide +kernel
theorem d_X12_swaps_43 : decode cX12_swaps 43 = .ok (.iconst 0, 1) := by decide +kernel
theorem d_X12_swaps_44 : decode cX12_swaps 44 = .ok (.goto 18, 3) := by decide +kernel
theorem d_X12_swaps_47 : decode cX12_swaps 47 = .ok (.iload 5, 2) := by decide +kernel
theorem d_X12_swaps_49 : decode cX12_swaps 49 = .ok (.aload_n 0, 1) := by decide +kernel
theorem d_X12_swaps_50 : decode cX12_swaps 50 = .ok (.iload_n 1, 1) := by decide +kernel
theorem d_X12_swaps_51 : decode cX12_swaps 51 = .ok (.invokevirtual 228, 3) := by decide +kernel
theorem d_X12_swaps_54 : decode cX12_swaps 54 = .ok (.if_icmp .gt 7, 3) := by decide +kernel
theorem d_X12_swaps_57 : decode cX12_swaps 57 = .ok (.iconst 1, 1) := by decide +kernel
theorem d_X12_swaps_58 : decode cX12_swaps 58 = .ok (.goto 4, 3) := by decide +kernel
theorem d_X12_swaps_61 : decode cX12_swaps 61 = .ok (.iconst 0, 1) := by decide +kernel
theorem d_X12_swaps_62 : decode cX12_swaps 62 = .ok (.istore 7, 2) := by decide +kernel
theorem d_X12_swaps_64 : decode cX12_swaps 64 = .ok (.aload_n 0, 1) := by decide +kernel
theorem d_X12_swaps_65 : decode cX12_swaps 65 = .ok (.getfield 326, 3) := by decide +kernel
theorem d_X12_swaps_68 : decode cX12_swaps 68 = .ok (.lconst 0, 1) := by decide +kernel
theorem d_X12_swaps_69 : decode cX12_swaps 69 = .ok (.lcmp, 1) := by decide +kernel
theorem d_X12_swaps_70 : decode cX12_swaps 70 = .ok (.ifCond .le 23, 3) := by decide +kernel
theorem d_X12_swaps_73 : decode cX12_swaps 73 = .ok (.iload 7, 2) := by decide +kernel
theorem d_X12_swaps_75 : decode cX12_swaps 75 = .ok (.ifCond .ne 18, 3) := by decide +kernel
theorem d_X12_swaps_78 : decode cX12_swaps 78 = .ok (.aload_n 0, 1) := by decide +kernel
theorem d_X12_swaps_79 : decode cX12_swaps 79 = .ok (.iload_n 1, 1) := by decide +kernel
theorem d_X12_swaps_80 : decode cX12_swaps 80 = .ok (.iload_n 2, 1) := by decide +kernel
theorem d_X12_swaps_81 : decode cX12_swaps 81 = .ok (.iload 5, 2) := by decide +kernel
theorem d_X12_swaps_83 : decode cX12_swaps 83 = .ok (.iload 6, 2) := by decide +kernel
theorem d_X12_swaps_85 : decode cX12_swaps 85 = .ok (.invokevirtual 369, 3) := by decide +kernel
theorem d_X12_swaps_88 : decode cX12_swaps 88 = .ok (.istore 7, 2) := by decide +kernel
theorem d_X12_swaps_90 : decode cX12_swaps 90 = .ok (.goto (-26), 3) := by decide +kernel
theorem d_X12_swaps_93 : decode cX12_swaps 93 = .ok (.return_, 1) := by decide +kernel
def f_X12_swaps_93 (S : Mem) : Option (Unit × Mem) := (some ((), S))
set_option maxRecDepth 20000 in
theorem t_X12_swaps_93 {X : MC} {Γ : GG} (C : CX X Γ cX12_swaps 8 "TickPoolsModel" 6 179) (hr : X.2.2.2.2.2.2.2.2.1.sig.returnType = none) {q : Unit × Mem} (S : Mem) (hf : f_X12_swaps_93 S = some q) : ZZ X Γ 8 (QQ X Γ none q.2) S 93 [] [] := by
  unfold f_X12_swaps_93 at hf
  exact r_v C hr d_X12_swaps_93 hf
def f_X12_swaps_64B (k64 : Int32 → Int32 → Int32 → Int32 → Int32 → Mem → Option (Unit × Mem)) (v1 : Int32) (v2 : Int32) (v5 : Int32) (v6 : Int32) (v7 : Int32) (S : Mem) : Option (Unit × Mem) := (if (gL S 20 29) ≤ 0 then (f_X12_swaps_93  S) else (if v7 = 0 then ((f_X12_steps v1 v2 v5 v6 S).bind fun q85 => (k64 v1 v2 v5 v6 q85.1 q85.2)) else (f_X12_swaps_93  S)))
set_option maxRecDepth 20000 in
theorem t_X12_swaps_64B {X : MC} {Γ : GG} (C : CX X Γ cX12_swaps 8 "TickPoolsModel" 6 179) (hr : X.2.2.2.2.2.2.2.2.1.sig.returnType = none) {k64 : Int32 → Int32 → Int32 → Int32 → Int32 → Mem → Option (Unit × Mem)} {q : Unit × Mem} (hk64 : ∀ (v1 : Int32) (v2 : Int32) (v5 : Int32) (v6 : Int32) (v7 : Int32) (S : Mem), k64 v1 v2 v5 v6 v7 S = some q → ZZ X Γ 8 (QQ X Γ none q.2) S 64 [(0, aR 20), (1, aI v1), (2, aI v2), (5, aI v5), (6, aI v6), (7, aI v7)] []) (v1 : Int32) (v2 : Int32) (v5 : Int32) (v6 : Int32) (v7 : Int32) (S : Mem) (hf : f_X12_swaps_64B k64 v1 v2 v5 v6 v7 S = some q) : ZZ X Γ 8 (QQ X Γ none q.2) S 64 [(0, aR 20), (1, aI v1), (2, aI v2), (5, aI v5), (6, aI v6), (7, aI v7)] [] := by
  unfold f_X12_swaps_64B at hf
  refine z_aload_n (j := 0) C d_X12_swaps_64 rfl ?_
  refine zg_X12_left C rfl tw_1240 d_X12_swaps_65 ?_
  refine z_lconst (v := 0) C d_X12_swaps_68 (by decide) ?_
  refine z_lle (tgt := 93) C d_X12_swaps_69 d_X12_swaps_70 (by decide) hf (fun c69 hf => ?_) (fun c69 hf => ?_)
  · exact z_sub [] rfl (t_X12_swaps_93 C hr  _ hf)
  · refine z_iload (j := 5) C d_X12_swaps_73 rfl ?_
    refine z_if_ne (tgt := 93) C d_X12_swaps_75 (by decide) hf (fun c75 hf => ?_) (fun c75 hf => ?_)
    · exact z_sub [] rfl (t_X12_swaps_93 C hr  _ hf)
    · refine z_aload_n (j := 0) C d_X12_swaps_78 rfl ?_
      refine z_iload_n (j := 1) C d_X12_swaps_79 rfl ?_
      refine z_iload_n (j := 2) C d_X12_swaps_80 rfl ?_
      refine z_iload (j := 3) C d_X12_swaps_81 rfl ?_
      refine z_iload (j := 4) C d_X12_swaps_83 rfl ?_
      obtain ⟨q85, hF, hf⟩ := bd hf
      refine z_callV1 (rest := []) C [aI v1, aI v2, aI v5, aI v6] rfl (by decide) rfl rfl k_X12_steps tw_1612 ⟨by decide, by decide⟩ (Nat.le_of_ble_eq_true rfl) d_X12_swaps_85 (c_X12_steps C.inj hF) rfl ?_
      refine z_istore (lv' := [(7, aI q85.1), (0, aR 20), (1, aI v1), (2, aI v2), (5, aI v5), (6, aI v6)]) C d_X12_swaps_88 (by decide) rfl ?_
      refine z_goto (tgt := 64) C d_X12_swaps_90 (by decide) ?_
      exact z_sub [1, 2, 3, 4, 5, 0] rfl (hk64 _ _ _ _ _ _ hf)
def f_X12_swaps_64 : Nat → Int32 → Int32 → Int32 → Int32 → Int32 → Mem → Option (Unit × Mem)
  | 0 => fun _ _ _ _ _ _ => none
  | n + 1 => f_X12_swaps_64B (f_X12_swaps_64 n)
theorem t_X12_swaps_64 {X : MC} {Γ : GG} (C : CX X Γ cX12_swaps 8 "TickPoolsModel" 6 179) (hr : X.2.2.2.2.2.2.2.2.1.sig.returnType = none) {q : Unit × Mem} : ∀ (n : Nat) (v1 : Int32) (v2 : Int32) (v5 : Int32) (v6 : Int32) (v7 : Int32) (S : Mem) (hf : f_X12_swaps_64 n v1 v2 v5 v6 v7 S = some q), ZZ X Γ 8 (QQ X Γ none q.2) S 64 [(0, aR 20), (1, aI v1), (2, aI v2), (5, aI v5), (6, aI v6), (7, aI v7)] []
  | 0, _, _, _, _, _, _, hf => nomatch (show (none : Option (Unit × Mem)) = some q from hf)
  | n + 1, v1, v2, v5, v6, v7, S, hf => t_X12_swaps_64B C hr (t_X12_swaps_64 C hr n) v1 v2 v5 v6 v7 S hf
def f_X12_swaps_62 (v1 : Int32) (v2 : Int32) (v5 : Int32) (v6 : Int32) (s0 : Int32) (S : Mem) : Option (Unit × Mem) := (f_X12_swaps_64  100000 v1 v2 v5 v6 s0 S)
set_option maxRecDepth 20000 in
theorem t_X12_swaps_62 {X : MC} {Γ : GG} (C : CX X Γ cX12_swaps 8 "TickPoolsModel" 6 179) (hr : X.2.2.2.2.2.2.2.2.1.sig.returnType = none) {q : Unit × Mem} (v1 : Int32) (v2 : Int32) (v5 : Int32) (v6 : Int32) (s0 : Int32) (S : Mem) (hf : f_X12_swaps_62 v1 v2 v5 v6 s0 S = some q) : ZZ X Γ 8 (QQ X Γ none q.2) S 62 [(0, aR 20), (1, aI v1), (2, aI v2), (5, aI v5), (6, aI v6)] [aI s0] := by
  unfold f_X12_swaps_62 at hf
  refine z_istore (lv' := [(7, aI s0), (0, aR 20), (1, aI v1), (2, aI v2), (5, aI v5), (6, aI v6)]) C d_X12_swaps_62 (by decide) rfl ?_
  exact z_sub [1, 2, 3, 4, 5, 0] rfl (t_X12_swaps_64 C hr  100000 _ _ _ _ _ _ hf)
def f_X12_swaps_15 (v1 : Int32) (v2 : Int32) (v5 : Int32) (v6 : Int32) (S : Mem) : Option (Unit × Mem) := (if v2 = 0 then ((f_X12_zoneNow v1 (sI (sL S 20 32 0) 20 33 0)).bind fun q33 => (if v5 ≤ q33.1 then (f_X12_swaps_62  v1 v2 v5 v6 0 q33.2) else (f_X12_swaps_62  v1 v2 v5 v6 1 q33.2))) else ((f_X12_zoneNow v1 (sI (sL S 20 32 0) 20 33 0)).bind fun q51 => (if q51.1 < v5 then (f_X12_swaps_62  v1 v2 v5 v6 0 q51.2) else (f_X12_swaps_62  v1 v2 v5 v6 1 q51.2))))
set_option maxRecDepth 20000 in
theorem t_X12_swaps_15 {X : MC} {Γ : GG} (C : CX X Γ cX12_swaps 8 "TickPoolsModel" 6 179) (hr : X.2.2.2.2.2.2.2.2.1.sig.returnType = none) {q : Unit × Mem} (v1 : Int32) (v2 : Int32) (v5 : Int32) (v6 : Int32) (S : Mem) (hf : f_X12_swaps_15 v1 v2 v5 v6 S = some q) : ZZ X Γ 8 (QQ X Γ none q.2) S 15 [(0, aR 20), (1, aI v1), (2, aI v2), (5, aI v5), (6, aI v6)] [] := by
  unfold f_X12_swaps_15 at hf
  refine z_aload_n (j := 0) C d_X12_swaps_15 rfl ?_
  refine z_lconst (v := 0) C d_X12_swaps_16 (by decide) ?_
  refine zp_X12_fees C rfl tw_1243 d_X12_swaps_17 ?_
  refine z_aload_n (j := 0) C d_X12_swaps_20 rfl ?_
  refine z_iconst (v := 0) C d_X12_swaps_21 (by decide) ?_
  refine zp_X12_crossed C rfl tw_1244 d_X12_swaps_22 ?_
  refine z_iload_n (j := 2) C d_X12_swaps_25 rfl ?_
  refine z_if_ne (tgt := 47) C d_X12_swaps_26 (by decide) hf (fun c26 hf => ?_) (fun c26 hf => ?_)
  · refine z_iload (j := 3) C d_X12_swaps_47 rfl ?_
    refine z_aload_n (j := 0) C d_X12_swaps_49 rfl ?_
    refine z_iload_n (j := 1) C d_X12_swaps_50 rfl ?_
    obtain ⟨q51, hF, hf⟩ := bd hf
    refine z_callV1 (rest := [aI v5]) C [aI v1] rfl (by decide) rfl rfl k_X12_zoneNow tw_1499 ⟨by decide, by decide⟩ (Nat.le_of_ble_eq_true rfl) d_X12_swaps_51 (c_X12_zoneNow C.inj hF) rfl ?_
    refine z_icmp_gt (tgt := 61) C d_X12_swaps_54 (by decide) hf (fun c54 hf => ?_) (fun c54 hf => ?_)
    · refine z_iconst (v := 0) C d_X12_swaps_61 (by decide) ?_
      exact z_sub [0, 1, 2, 3, 4] rfl (t_X12_swaps_62 C hr  _ _ _ _ _ _ hf)
    · refine z_iconst (v := 1) C d_X12_swaps_57 (by decide) ?_
      refine z_goto (tgt := 62) C d_X12_swaps_58 (by decide) ?_
      exact z_sub [0, 1, 2, 3, 4] rfl (t_X12_swaps_62 C hr  _ _ _ _ _ _ hf)
  · refine z_iload (j := 3) C d_X12_swaps_29 rfl ?_
    refine z_aload_n (j := 0) C d_X12_swaps_31 rfl ?_
    refine z_iload_n (j := 1) C d_X12_swaps_32 rfl ?_
    obtain ⟨q33, hF, hf⟩ := bd hf
    refine z_callV1 (rest := [aI v5]) C [aI v1] rfl (by decide) rfl rfl k_X12_zoneNow tw_1499 ⟨by decide, by decide⟩ (Nat.le_of_ble_eq_true rfl) d_X12_swaps_33 (c_X12_zoneNow C.inj hF) rfl ?_
    refine z_icmp_le (tgt := 43) C d_X12_swaps_36 (by decide) hf (fun c36 hf => ?_) (fun c36 hf => ?_)
    · refine z_iconst (v := 0) C d_X12_swaps_43 (by decide) ?_
      refine z_goto (tgt := 62) C d_X12_swaps_44 (by decide) ?_
      exact z_sub [0, 1, 2, 3, 4] rfl (t_X12_swaps_62 C hr  _ _ _ _ _ _ hf)
    · refine z_iconst (v := 1) C d_X12_swaps_39 (by decide) ?_
      refine z_goto (tgt := 62) C d_X12_swaps_40 (by decide) ?_
      exact z_sub [0, 1, 2, 3, 4] rfl (t_X12_swaps_62 C hr  _ _ _ _ _ _ hf)
/-- TickPoolsModel.swaps(IIJIZ)V -/
def f_X12_swaps (p1 : Int32) (p2 : Int32) (p3 : Int64) (p5 : Int32) (p6 : Int32) (S : Mem) : Option (Unit × Mem) := (f_X12_swaps_15  p1 p2 p5 p6 (sL (sL (sL S 20 29 p3) 20 30 0) 20 31 0))
set_option maxRecDepth 20000 in
theorem c_X12_swaps {l : Launch} {Γ : GG} (hI : Inj Γ) {p1 : Int32} {p2 : Int32} {p3 : Int64} {p5 : Int32} {p6 : Int32} {S : Mem} {q : Unit × Mem} (hf : f_X12_swaps p1 p2 p3 p5 p6 S = some q) : MM l Γ yX12_swaps cX12_swaps 8 (none) 6 179 [aR 20, aI p1, aI p2, aJ p3, aI p5, aI p6] S none q.2 := by
  refine met_of hI "TickPoolsModel" rfl (by decide +kernel) (Nat.le_of_ble_eq_true rfl) (fun X hX C hr => ?_)
  unfold f_X12_swaps at hf
  show ZZ X Γ 8 _ S 0 [(0, aR 20), (1, aI p1), (2, aI p2), (3, aJ p3), (5, aI p5), (6, aI p6)] []
  refine z_aload_n (j := 0) C d_X12_swaps_0 rfl ?_
  refine z_lload_n (j := 3) C d_X12_swaps_1 rfl ?_
  refine zp_X12_left C rfl tw_1240 d_X12_swaps_2 ?_
  refine z_aload_n (j := 0) C d_X12_swaps_5 rfl ?_
  refine z_lconst (v := 0) C d_X12_swaps_6 (by decide) ?_
  refine zp_X12_came C rfl tw_1241 d_X12_swaps_7 ?_
  refine z_aload_n (j := 0) C d_X12_swaps_10 rfl ?_
  refine z_lconst (v := 0) C d_X12_swaps_11 (by decide) ?_
  refine zp_X12_gone C rfl tw_1242 d_X12_swaps_12 ?_
  exact z_sub [0, 1, 2, 4, 5] rfl (t_X12_swaps_15 C hr  _ _ _ _ _ hf)
theorem d_X12_endOf_0 : decode cX12_endOf 0 = .ok (.iload_n 0, 1) := by decide +kernel
theorem d_X12_endOf_1 : decode cX12_endOf 1 = .ok (.ifCond .ne 7, 3) := by decide +kernel
theorem d_X12_endOf_4 : decode cX12_endOf 4 = .ok (.iconst 0, 1) := by decide +kernel
theorem d_X12_endOf_5 : decode cX12_endOf 5 = .ok (.goto 5, 3) := by decide +kernel
theorem d_X12_endOf_8 : decode cX12_endOf 8 = .ok (.bipush 40, 2) := by decide +kernel
theorem d_X12_endOf_10 : decode cX12_endOf 10 = .ok (.ireturn, 1) := by decide +kernel
def f_X12_endOf_10 (s0 : Int32) (S : Mem) : Option (Int32 × Mem) := (some (s0, S))
set_option maxRecDepth 20000 in
theorem t_X12_endOf_10 {X : MC} {Γ : GG} (C : CX X Γ cX12_endOf 1 "TickPoolsModel" 0 0) (hr : X.2.2.2.2.2.2.2.2.1.sig.returnType = some .int) {q : Int32 × Mem} (s0 : Int32) (S : Mem) (hf : f_X12_endOf_10 s0 S = some q) : ZZ X Γ 1 (QQ X Γ (some (aI q.1)) q.2) S 10 [] [aI s0] := by
  unfold f_X12_endOf_10 at hf
  exact r_i C hr rfl d_X12_endOf_10 hf
/-- TickPoolsModel.endOf(I)I -/
def f_X12_endOf (p0 : Int32) (S : Mem) : Option (Int32 × Mem) := (if p0 = 0 then (f_X12_endOf_10  0 S) else (f_X12_endOf_10  40 S))
set_option maxRecDepth 20000 in
theorem c_X12_endOf {l : Launch} {Γ : GG} (hI : Inj Γ) {p0 : Int32} {S : Mem} {q : Int32 × Mem} (hf : f_X12_endOf p0 S = some q) : MM l Γ yX12_endOf cX12_endOf 1 (some .int) 0 0 [aI p0] S (some (aI q.1)) q.2 := by
  refine met_of hI "TickPoolsModel" rfl (by decide +kernel) (Nat.le_of_ble_eq_true rfl) (fun X hX C hr => ?_)
  unfold f_X12_endOf at hf
  show ZZ X Γ 1 _ S 0 [(0, aI p0)] []
  refine z_iload_n (j := 0) C d_X12_endOf_0 rfl ?_
  refine z_if_ne (tgt := 8) C d_X12_endOf_1 (by decide) hf (fun c1 hf => ?_) (fun c1 hf => ?_)
  · refine z_bipush (v := 40) C d_X12_endOf_8 (by decide) ?_
    exact z_sub [] rfl (t_X12_endOf_10 C hr  _ _ hf)
  · refine z_iconst (v := 0) C d_X12_endOf_4 (by decide) ?_
    refine z_goto (tgt := 10) C d_X12_endOf_5 (by decide) ?_
    exact z_sub [] rfl (t_X12_endOf_10 C hr  _ _ hf)
theorem d_X12_isSide_0 : decode cX12_isSide 0 = .ok (.iload_n 0, 1) := by decide +kernel
theorem d_X12_isSide_1 : decode cX12_isSide 1 = .ok (.ifCond .eq 8, 3) := by decide +kernel
theorem d_X12_isSide_4 : decode cX12_isSide 4 = .ok (.iload_n 0, 1) := by decide +kernel
theorem d_X12_isSide_5 : decode cX12_isSide 5 = .ok (.iconst 1, 1) := by decide +kernel
theorem d_X12_isSide_6 : decode cX12_isSide 6 = .ok (.if_icmp .ne 7, 3) := by decide +kernel
theorem d_X12_isSide_9 : decode cX12_isSide 9 = .ok (.iconst 1, 1) := by decide +kernel
theorem d_X12_isSide_10 : decode cX12_isSide 10 = .ok (.goto 4, 3) := by decide +kernel
theorem d_X12_isSide_13 : decode cX12_isSide 13 = .ok (.iconst 0, 1) := by decide +kernel
theorem d_X12_isSide_14 : decode cX12_isSide 14 = .ok (.ireturn, 1) := by decide +kernel
def f_X12_isSide_14 (s0 : Int32) (S : Mem) : Option (Int32 × Mem) := (if isB s0 = true then (some (s0, S)) else none)
set_option maxRecDepth 20000 in
theorem t_X12_isSide_14 {X : MC} {Γ : GG} (C : CX X Γ cX12_isSide 1 "TickPoolsModel" 0 0) (hr : X.2.2.2.2.2.2.2.2.1.sig.returnType = some .boolean) {q : Int32 × Mem} (s0 : Int32) (S : Mem) (hf : f_X12_isSide_14 s0 S = some q) : ZZ X Γ 1 (QQ X Γ (some (aI q.1)) q.2) S 14 [] [aI s0] := by
  unfold f_X12_isSide_14 at hf
  obtain ⟨hb14_0, hf⟩ := gd hf
  exact r_i C hr (isB_nar hb14_0).1 d_X12_isSide_14 hf
def f_X12_isSide_9 (S : Mem) : Option (Int32 × Mem) := (f_X12_isSide_14  1 S)
set_option maxRecDepth 20000 in
theorem t_X12_isSide_9 {X : MC} {Γ : GG} (C : CX X Γ cX12_isSide 1 "TickPoolsModel" 0 0) (hr : X.2.2.2.2.2.2.2.2.1.sig.returnType = some .boolean) {q : Int32 × Mem} (S : Mem) (hf : f_X12_isSide_9 S = some q) : ZZ X Γ 1 (QQ X Γ (some (aI q.1)) q.2) S 9 [] [] := by
  unfold f_X12_isSide_9 at hf
  refine z_iconst (v := 1) C d_X12_isSide_9 (by decide) ?_
  refine z_goto (tgt := 14) C d_X12_isSide_10 (by decide) ?_
  exact z_sub [] rfl (t_X12_isSide_14 C hr  _ _ hf)
/-- TickPoolsModel.isSide(I)Z -/
def f_X12_isSide (p0 : Int32) (S : Mem) : Option (Int32 × Mem) := (if p0 = 0 then (f_X12_isSide_9  S) else (if p0 = 1 then (f_X12_isSide_9  S) else (f_X12_isSide_14  0 S)))
set_option maxRecDepth 20000 in
theorem c_X12_isSide {l : Launch} {Γ : GG} (hI : Inj Γ) {p0 : Int32} {S : Mem} {q : Int32 × Mem} (hf : f_X12_isSide p0 S = some q) : MM l Γ yX12_isSide cX12_isSide 1 (some .boolean) 0 0 [aI p0] S (some (aI q.1)) q.2 := by
  refine met_of hI "TickPoolsModel" rfl (by decide +kernel) (Nat.le_of_ble_eq_true rfl) (fun X hX C hr => ?_)
  unfold f_X12_isSide at hf
  show ZZ X Γ 1 _ S 0 [(0, aI p0)] []
  refine z_iload_n (j := 0) C d_X12_isSide_0 rfl ?_
  refine z_if_eq (tgt := 9) C d_X12_isSide_1 (by decide) hf (fun c1 hf => ?_) (fun c1 hf => ?_)
  · exact z_sub [] rfl (t_X12_isSide_9 C hr  _ hf)
  · refine z_iload_n (j := 0) C d_X12_isSide_4 rfl ?_
    refine z_iconst (v := 1) C d_X12_isSide_5 (by decide) ?_
    refine z_icmp_ne (tgt := 13) C d_X12_isSide_6 (by decide) hf (fun c6 hf => ?_) (fun c6 hf => ?_)
    · refine z_iconst (v := 0) C d_X12_isSide_13 (by decide) ?_
      exact z_sub [] rfl (t_X12_isSide_14 C hr  _ _ hf)
    · exact z_sub [] rfl (t_X12_isSide_9 C hr  _ hf)
theorem d_X12_markOf_0 : decode cX12_markOf 0 = .ok (.aload_n 0, 1) := by decide +kernel
theorem d_X12_markOf_1 : decode cX12_markOf 1 = .ok (.iload_n 1, 1) := by decide +kernel
theorem d_X12_markOf_2 : decode cX12_markOf 2 = .ok (.bipush 7, 2) := by decide +kernel
theorem d_X12_markOf_4 : decode cX12_markOf 4 = .ok (.iconst 2, 1) := by decide +kernel
theorem d_X12_markOf_5 : decode cX12_markOf 5 = .ok (.iload_n 2, 1) := by decide +kernel
theorem d_X12_markOf_6 : decode cX12_markOf 6 = .ok (.imul, 1) := by decide +kernel
theorem d_X12_markOf_7 : decode cX12_markOf 7 = .ok (.iadd, 1) := by decide +kernel
theorem d_X12_markOf_8 : decode cX12_markOf 8 = .ok (.iload_n 3, 1) := by decide +kernel
theorem d_X12_markOf_9 : decode cX12_markOf 9 = .ok (.iadd, 1) := by decide +kernel
theorem d_X12_markOf_10 : decode cX12_markOf 10 = .ok (.invokevirtual 116, 3) := by decide +kernel
theorem d_X12_markOf_13 : decode cX12_markOf 13 = .ok (.lreturn, 1) := by decide +kernel
/-- TickPoolsModel.markOf(III)J -/
def f_X12_markOf (p1 : Int32) (p2 : Int32) (p3 : Int32) (S : Mem) : Option (Int64 × Mem) := ((f_X12_ofPool p1 ((7 + (2 * p2)) + p3) S).bind fun q10 => (some (q10.1, q10.2)))
set_option maxRecDepth 20000 in
theorem c_X12_markOf {l : Launch} {Γ : GG} (hI : Inj Γ) {p1 : Int32} {p2 : Int32} {p3 : Int32} {S : Mem} {q : Int64 × Mem} (hf : f_X12_markOf p1 p2 p3 S = some q) : MM l Γ yX12_markOf cX12_markOf 4 (some .long) 1 22 [aR 20, aI p1, aI p2, aI p3] S (some (aJ q.1)) q.2 := by
  refine met_of hI "TickPoolsModel" rfl (by decide +kernel) (Nat.le_of_ble_eq_true rfl) (fun X hX C hr => ?_)
  unfold f_X12_markOf at hf
  show ZZ X Γ 4 _ S 0 [(0, aR 20), (1, aI p1), (2, aI p2), (3, aI p3)] []
  refine z_aload_n (j := 0) C d_X12_markOf_0 rfl ?_
  refine z_iload_n (j := 1) C d_X12_markOf_1 rfl ?_
  refine z_bipush (v := 7) C d_X12_markOf_2 (by decide) ?_
  refine z_iconst (v := 2) C d_X12_markOf_4 (by decide) ?_
  refine z_iload_n (j := 2) C d_X12_markOf_5 rfl ?_
  refine z_imul C d_X12_markOf_6 ?_
  refine z_iadd C d_X12_markOf_7 ?_
  refine z_iload_n (j := 3) C d_X12_markOf_8 rfl ?_
  refine z_iadd C d_X12_markOf_9 ?_
  obtain ⟨q10, hF, hf⟩ := bd hf
  refine z_callV1 (rest := []) C [aI p1, aI ((7 + (2 * p2)) + p3)] rfl (by decide) rfl rfl k_X12_ofPool tw_1503 ⟨by decide, by decide⟩ (Nat.le_of_ble_eq_true rfl) d_X12_markOf_10 (c_X12_ofPool C.inj hF) rfl ?_
  exact r_l C hr d_X12_markOf_13 hf
theorem d_X12_marks_0 : decode cX12_marks 0 = .ok (.aload_n 0, 1) := by decide +kernel
theorem d_X12_marks_1 : decode cX12_marks 1 = .ok (.iload_n 1, 1) := by decide +kernel
theorem d_X12_marks_2 : decode cX12_marks 2 = .ok (.bipush 6, 2) := by decide +kernel
theorem d_X12_marks_4 : decode cX12_marks 4 = .ok (.invokevirtual 116, 3) := by decide +kernel
theorem d_X12_marks_7 : decode cX12_marks 7 = .ok (.l2i, 1) := by decide +kernel
theorem d_X12_marks_8 : decode cX12_marks 8 = .ok (.ireturn, 1) := by decide +kernel
/-- TickPoolsModel.marks(I)I -/
def f_X12_marks (p1 : Int32) (S : Mem) : Option (Int32 × Mem) := ((f_X12_ofPool p1 6 S).bind fun q4 => (some (((q4.1 : Int64).toInt32), q4.2)))
set_option maxRecDepth 20000 in
theorem c_X12_marks {l : Launch} {Γ : GG} (hI : Inj Γ) {p1 : Int32} {S : Mem} {q : Int32 × Mem} (hf : f_X12_marks p1 S = some q) : MM l Γ yX12_marks cX12_marks 2 (some .int) 1 22 [aR 20, aI p1] S (some (aI q.1)) q.2 := by
  refine met_of hI "TickPoolsModel" rfl (by decide +kernel) (Nat.le_of_ble_eq_true rfl) (fun X hX C hr => ?_)
  unfold f_X12_marks at hf
  show ZZ X Γ 2 _ S 0 [(0, aR 20), (1, aI p1)] []
  refine z_aload_n (j := 0) C d_X12_marks_0 rfl ?_
  refine z_iload_n (j := 1) C d_X12_marks_1 rfl ?_
  refine z_bipush (v := 6) C d_X12_marks_2 (by decide) ?_
  obtain ⟨q4, hF, hf⟩ := bd hf
  refine z_callV1 (rest := []) C [aI p1, aI 6] rfl (by decide) rfl rfl k_X12_ofPool tw_1503 ⟨by decide, by decide⟩ (Nat.le_of_ble_eq_true rfl) d_X12_marks_4 (c_X12_ofPool C.inj hF) rfl ?_
  refine z_l2i C d_X12_marks_7 ?_
  exact r_i C hr rfl d_X12_marks_8 hf
theorem d_X12_sumAt_0 : decode cX12_sumAt 0 = .ok (.aload_n 0, 1) := by decide +kernel
theorem d_X12_sumAt_1 : decode cX12_sumAt 1 = .ok (.iload_n 1, 1) := by decide +kernel
theorem d_X12_sumAt_2 : decode cX12_sumAt 2 = .ok (.invokevirtual 373, 3) := by decide +kernel
theorem d_X12_sumAt_5 : decode cX12_sumAt 5 = .ok (.iconst 1, 1) := by decide +kernel
theorem d_X12_sumAt_6 : decode cX12_sumAt 6 = .ok (.isub, 1) := by decide +kernel
theorem d_X12_sumAt_7 : decode cX12_sumAt 7 = .ok (.istore 4, 2) := by decide +kernel
theorem d_X12_sumAt_9 : decode cX12_sumAt 9 = .ok (.aload_n 0, 1) := by decide +kernel
theorem d_X12_sumAt_10 : decode cX12_sumAt 10 = .ok (.iload_n 1, 1) := by decide +kernel
theorem d_X12_sumAt_11 : decode cX12_sumAt 11 = .ok (.iload 4, 2) := by decide +kernel
theorem d_X12_sumAt_13 : decode cX12_sumAt 13 = .ok (.iconst 0, 1) := by decide +kernel
theorem d_X12_sumAt_14 : decode cX12_sumAt 14 = .ok (.invokevirtual 376, 3) := by decide +kernel
theorem d_X12_sumAt_17 : decode cX12_sumAt 17 = .ok (.lload_n 2, 1) := by decide +kernel
theorem d_X12_sumAt_18 : decode cX12_sumAt 18 = .ok (.lcmp, 1) := by decide +kernel
theorem d_X12_sumAt_19 : decode cX12_sumAt 19 = .ok (.ifCond .le 9, 3) := by decide +kernel
theorem d_X12_sumAt_22 : decode cX12_sumAt 22 = .ok (.iinc 4 (-1), 3) := by decide +kernel
theorem d_X12_sumAt_25 : decode cX12_sumAt 25 = .ok (.goto (-16), 3) := by decide +kernel
theorem d_X12_sumAt_28 : decode cX12_sumAt 28 = .ok (.aload_n 0, 1) := by decide +kernel
theorem d_X12_sumAt_29 : decode cX12_sumAt 29 = .ok (.iload_n 1, 1) := by decide +kernel
theorem d_X12_sumAt_30 : decode cX12_sumAt 30 = .ok (.invokevirtual 228, 3) := by decide +kernel
theorem d_X12_sumAt_33 : decode cX12_sumAt 33 = .ok (.i2l, 1) := by decide +kernel
theorem d_X12_sumAt_34 : decode cX12_sumAt 34 = .ok (.lstore 5, 2) := by decide +kernel
theorem d_X12_sumAt_36 : decode cX12_sumAt 36 = .ok (.iload 4, 2) := by decide +kernel
theorem d_X12_sumAt_38 : decode cX12_sumAt 38 = .ok (.aload_n 0, 1) := by decide +kernel
theorem d_X12_sumAt_39 : decode cX12_sumAt 39 = .ok (.iload_n 1, 1) := by decide +kernel
theorem d_X12_sumAt_40 : decode cX12_sumAt 40 = .ok (.invokevirtual 373, 3) := by decide +kernel
theorem d_X12_sumAt_43 : decode cX12_sumAt 43 = .ok (.iconst 1, 1) := by decide +kernel
theorem d_X12_sumAt_44 : decode cX12_sumAt 44 = .ok (.isub, 1) := by decide +kernel
theorem d_X12_sumAt_45 : decode cX12_sumAt 45 = .ok (.if_icmp .ge 44, 3) := by decide +kernel
theorem d_X12_sumAt_48 : decode cX12_sumAt 48 = .ok (.aload_n 0, 1) := by decide +kernel
theorem d_X12_sumAt_49 : decode cX12_sumAt 49 = .ok (.iload_n 1, 1) := by decide +kernel
theorem d_X12_sumAt_50 : decode cX12_sumAt 50 = .ok (.iload 4, 2) := by decide +kernel
theorem d_X12_sumAt_52 : decode cX12_sumAt 52 = .ok (.iconst 1, 1) := by decide +kernel
theorem d_X12_sumAt_53 : decode cX12_sumAt 53 = .ok (.iadd, 1) := by decide +kernel
theorem d_X12_sumAt_54 : decode cX12_sumAt 54 = .ok (.iconst 1, 1) := by decide +kernel
theorem d_X12_sumAt_55 : decode cX12_sumAt 55 = .ok (.invokevirtual 376, 3) := by decide +kernel
theorem d_X12_sumAt_58 : decode cX12_sumAt 58 = .ok (.aload_n 0, 1) := by decide +kernel
theorem d_X12_sumAt_59 : decode cX12_sumAt 59 = .ok (.iload_n 1, 1) := by decide +kernel
theorem d_X12_sumAt_60 : decode cX12_sumAt 60 = .ok (.iload 4, 2) := by decide +kernel
theorem d_X12_sumAt_62 : decode cX12_sumAt 62 = .ok (.iconst 1, 1) := by decide +kernel
theorem d_X12_sumAt_63 : decode cX12_sumAt 63 = .ok (.invokevirtual 376, 3) := by decide +kernel
theorem d_X12_sumAt_66 : decode cX12_sumAt 66 = .ok (.lsub, 1) := by decide +kernel
theorem d_X12_sumAt_67 : decode cX12_sumAt 67 = .ok (.aload_n 0, 1) := by decide +kernel
theorem d_X12_sumAt_68 : decode cX12_sumAt 68 = .ok (.iload_n 1, 1) := by decide +kernel
theorem d_X12_sumAt_69 : decode cX12_sumAt 69 = .ok (.iload 4, 2) := by decide +kernel
theorem d_X12_sumAt_71 : decode cX12_sumAt 71 = .ok (.iconst 1, 1) := by decide +kernel
theorem d_X12_sumAt_72 : decode cX12_sumAt 72 = .ok (.iadd, 1) := by decide +kernel
theorem d_X12_sumAt_73 : decode cX12_sumAt 73 = .ok (.iconst 0, 1) := by decide +kernel
theorem d_X12_sumAt_74 : decode cX12_sumAt 74 = .ok (.invokevirtual 376, 3) := by decide +kernel
theorem d_X12_sumAt_77 : decode cX12_sumAt 77 = .ok (.aload_n 0, 1) := by decide +kernel
theorem d_X12_sumAt_78 : decode cX12_sumAt 78 = .ok (.iload_n 1, 1) := by decide +kernel
theorem d_X12_sumAt_79 : decode cX12_sumAt 79 = .ok (.iload 4, 2) := by decide +kernel
theorem d_X12_sumAt_81 : decode cX12_sumAt 81 = .ok (.iconst 0, 1) := by decide +kernel
theorem d_X12_sumAt_82 : decode cX12_sumAt 82 = .ok (.invokevirtual 376, 3) := by decide +kernel
theorem d_X12_sumAt_85 : decode cX12_sumAt 85 = .ok (.lsub, 1) := by decide +kernel
theorem d_X12_sumAt_86 : decode cX12_sumAt 86 = .ok (.ldiv, 1) := by decide +kernel
theorem d_X12_sumAt_87 : decode cX12_sumAt 87 = .ok (.lstore 5, 2) := by decide +kernel
theorem d_X12_sumAt_89 : decode cX12_sumAt 89 = .ok (.aload_n 0, 1) := by decide +kernel
theorem d_X12_sumAt_90 : decode cX12_sumAt 90 = .ok (.iload_n 1, 1) := by decide +kernel
theorem d_X12_sumAt_91 : decode cX12_sumAt 91 = .ok (.iload 4, 2) := by decide +kernel
theorem d_X12_sumAt_93 : decode cX12_sumAt 93 = .ok (.iconst 1, 1) := by decide +kernel
theorem d_X12_sumAt_94 : decode cX12_sumAt 94 = .ok (.invokevirtual 376, 3) := by decide +kernel
theorem d_X12_sumAt_97 : decode cX12_sumAt 97 = .ok (.lload 5, 2) := by decide +kernel
theorem d_X12_sumAt_99 : decode cX12_sumAt 99 = .ok (.lload_n 2, 1) := by decide +kernel
theorem d_X12_sumAt_100 : decode cX12_sumAt 100 = .ok (.aload_n 0, 1) := by decide +kernel
theorem d_X12_sumAt_101 : decode cX12_sumAt 101 = .ok (.iload_n 1, 1) := by decide +kernel
theorem d_X12_sumAt_102 : decode cX12_sumAt 102 = .ok (.iload 4, 2) := by decide +kernel
theorem d_X12_sumAt_104 : decode cX12_sumAt 104 = .ok (.iconst 0, 1) := by decide +kernel
theorem d_X12_sumAt_105 : decode cX12_sumAt 105 = .ok (.invokevirtual 376, 3) := by decide +kernel
theorem d_X12_sumAt_108 : decode cX12_sumAt 108 = .ok (.lsub, 1) := by decide +kernel
theorem d_X12_sumAt_109 : decode cX12_sumAt 109 = .ok (.lmul, 1) := by decide +kernel
theorem d_X12_sumAt_110 : decode cX12_sumAt 110 = .ok (.ladd, 1) := by decide +kernel
theorem d_X12_sumAt_111 : decode cX12_sumAt 111 = .ok (.lreturn, 1) := by decide +kernel
def f_X12_sumAt_89 (v1 : Int32) (v2 : Int64) (v4 : Int32) (v5 : Int64) (S : Mem) : Option (Int64 × Mem) := ((f_X12_markOf v1 v4 1 S).bind fun q94 => ((f_X12_markOf v1 v4 0 q94.2).bind fun q105 => (some ((q94.1 + (v5 * (v2 - q105.1))), q105.2))))
set_option maxRecDepth 20000 in
theorem t_X12_sumAt_89 {X : MC} {Γ : GG} (C : CX X Γ cX12_sumAt 7 "TickPoolsModel" 2 45) (hr : X.2.2.2.2.2.2.2.2.1.sig.returnType = some .long) {q : Int64 × Mem} (v1 : Int32) (v2 : Int64) (v4 : Int32) (v5 : Int64) (S : Mem) (hf : f_X12_sumAt_89 v1 v2 v4 v5 S = some q) : ZZ X Γ 7 (QQ X Γ (some (aJ q.1)) q.2) S 89 [(0, aR 20), (1, aI v1), (2, aJ v2), (4, aI v4), (5, aJ v5)] [] := by
  unfold f_X12_sumAt_89 at hf
  refine z_aload_n (j := 0) C d_X12_sumAt_89 rfl ?_
  refine z_iload_n (j := 1) C d_X12_sumAt_90 rfl ?_
  refine z_iload (j := 3) C d_X12_sumAt_91 rfl ?_
  refine z_iconst (v := 1) C d_X12_sumAt_93 (by decide) ?_
  obtain ⟨q94, hF, hf⟩ := bd hf
  refine z_callV1 (rest := []) C [aI v1, aI v4, aI 1] rfl (by decide) rfl rfl k_X12_markOf tw_1578 ⟨by decide, by decide⟩ (Nat.le_of_ble_eq_true rfl) d_X12_sumAt_94 (c_X12_markOf C.inj hF) rfl ?_
  refine z_lload (j := 4) C d_X12_sumAt_97 rfl ?_
  refine z_lload_n (j := 2) C d_X12_sumAt_99 rfl ?_
  refine z_aload_n (j := 0) C d_X12_sumAt_100 rfl ?_
  refine z_iload_n (j := 1) C d_X12_sumAt_101 rfl ?_
  refine z_iload (j := 3) C d_X12_sumAt_102 rfl ?_
  refine z_iconst (v := 0) C d_X12_sumAt_104 (by decide) ?_
  obtain ⟨q105, hF, hf⟩ := bd hf
  refine z_callV1 (rest := [aJ v2, aJ v5, aJ q94.1]) C [aI v1, aI v4, aI 0] rfl (by decide) rfl rfl k_X12_markOf tw_1578 ⟨by decide, by decide⟩ (Nat.le_of_ble_eq_true rfl) d_X12_sumAt_105 (c_X12_markOf C.inj hF) rfl ?_
  refine z_lsub C d_X12_sumAt_108 ?_
  refine z_lmul C d_X12_sumAt_109 ?_
  refine z_ladd C d_X12_sumAt_110 ?_
  exact r_l C hr d_X12_sumAt_111 hf
def f_X12_sumAt_36 (v1 : Int32) (v2 : Int64) (v4 : Int32) (v5 : Int64) (S : Mem) : Option (Int64 × Mem) := ((f_X12_marks v1 S).bind fun q40 => (if (q40.1 - 1) ≤ v4 then (f_X12_sumAt_89  v1 v2 v4 v5 q40.2) else ((f_X12_markOf v1 (v4 + 1) 1 q40.2).bind fun q55 => ((f_X12_markOf v1 v4 1 q55.2).bind fun q63 => ((f_X12_markOf v1 (v4 + 1) 0 q63.2).bind fun q74 => ((f_X12_markOf v1 v4 0 q74.2).bind fun q82 => (if (q74.1 - q82.1) = 0 then none else (f_X12_sumAt_89  v1 v2 v4 ((q55.1 - q63.1) / (q74.1 - q82.1)) q82.2))))))))
set_option maxRecDepth 20000 in
theorem t_X12_sumAt_36 {X : MC} {Γ : GG} (C : CX X Γ cX12_sumAt 7 "TickPoolsModel" 2 45) (hr : X.2.2.2.2.2.2.2.2.1.sig.returnType = some .long) {q : Int64 × Mem} (v1 : Int32) (v2 : Int64) (v4 : Int32) (v5 : Int64) (S : Mem) (hf : f_X12_sumAt_36 v1 v2 v4 v5 S = some q) : ZZ X Γ 7 (QQ X Γ (some (aJ q.1)) q.2) S 36 [(0, aR 20), (1, aI v1), (2, aJ v2), (4, aI v4), (5, aJ v5)] [] := by
  unfold f_X12_sumAt_36 at hf
  refine z_iload (j := 3) C d_X12_sumAt_36 rfl ?_
  refine z_aload_n (j := 0) C d_X12_sumAt_38 rfl ?_
  refine z_iload_n (j := 1) C d_X12_sumAt_39 rfl ?_
  obtain ⟨q40, hF, hf⟩ := bd hf
  refine z_callV1 (rest := [aI v4]) C [aI v1] rfl (by decide) rfl rfl k_X12_marks tw_1586 ⟨by decide, by decide⟩ (Nat.le_of_ble_eq_true rfl) d_X12_sumAt_40 (c_X12_marks C.inj hF) rfl ?_
  refine z_iconst (v := 1) C d_X12_sumAt_43 (by decide) ?_
  refine z_isub C d_X12_sumAt_44 ?_
  refine z_icmp_ge (tgt := 89) C d_X12_sumAt_45 (by decide) hf (fun c45 hf => ?_) (fun c45 hf => ?_)
  · exact z_sub [0, 1, 2, 3, 4] rfl (t_X12_sumAt_89 C hr  _ _ _ _ _ hf)
  · refine z_aload_n (j := 0) C d_X12_sumAt_48 rfl ?_
    refine z_iload_n (j := 1) C d_X12_sumAt_49 rfl ?_
    refine z_iload (j := 3) C d_X12_sumAt_50 rfl ?_
    refine z_iconst (v := 1) C d_X12_sumAt_52 (by decide) ?_
    refine z_iadd C d_X12_sumAt_53 ?_
    refine z_iconst (v := 1) C d_X12_sumAt_54 (by decide) ?_
    obtain ⟨q55, hF, hf⟩ := bd hf
    refine z_callV1 (rest := []) C [aI v1, aI (v4 + 1), aI 1] rfl (by decide) rfl rfl k_X12_markOf tw_1578 ⟨by decide, by decide⟩ (Nat.le_of_ble_eq_true rfl) d_X12_sumAt_55 (c_X12_markOf C.inj hF) rfl ?_
    refine z_aload_n (j := 0) C d_X12_sumAt_58 rfl ?_
    refine z_iload_n (j := 1) C d_X12_sumAt_59 rfl ?_
    refine z_iload (j := 3) C d_X12_sumAt_60 rfl ?_
    refine z_iconst (v := 1) C d_X12_sumAt_62 (by decide) ?_
    obtain ⟨q63, hF, hf⟩ := bd hf
    refine z_callV1 (rest := [aJ q55.1]) C [aI v1, aI v4, aI 1] rfl (by decide) rfl rfl k_X12_markOf tw_1578 ⟨by decide, by decide⟩ (Nat.le_of_ble_eq_true rfl) d_X12_sumAt_63 (c_X12_markOf C.inj hF) rfl ?_
    refine z_lsub C d_X12_sumAt_66 ?_
    refine z_aload_n (j := 0) C d_X12_sumAt_67 rfl ?_
    refine z_iload_n (j := 1) C d_X12_sumAt_68 rfl ?_
    refine z_iload (j := 3) C d_X12_sumAt_69 rfl ?_
    refine z_iconst (v := 1) C d_X12_sumAt_71 (by decide) ?_
    refine z_iadd C d_X12_sumAt_72 ?_
    refine z_iconst (v := 0) C d_X12_sumAt_73 (by decide) ?_
    obtain ⟨q74, hF, hf⟩ := bd hf
    refine z_callV1 (rest := [aJ (q55.1 - q63.1)]) C [aI v1, aI (v4 + 1), aI 0] rfl (by decide) rfl rfl k_X12_markOf tw_1578 ⟨by decide, by decide⟩ (Nat.le_of_ble_eq_true rfl) d_X12_sumAt_74 (c_X12_markOf C.inj hF) rfl ?_
    refine z_aload_n (j := 0) C d_X12_sumAt_77 rfl ?_
    refine z_iload_n (j := 1) C d_X12_sumAt_78 rfl ?_
    refine z_iload (j := 3) C d_X12_sumAt_79 rfl ?_
    refine z_iconst (v := 0) C d_X12_sumAt_81 (by decide) ?_
    obtain ⟨q82, hF, hf⟩ := bd hf
    refine z_callV1 (rest := [aJ q74.1, aJ (q55.1 - q63.1)]) C [aI v1, aI v4, aI 0] rfl (by decide) rfl rfl k_X12_markOf tw_1578 ⟨by decide, by decide⟩ (Nat.le_of_ble_eq_true rfl) d_X12_sumAt_82 (c_X12_markOf C.inj hF) rfl ?_
    refine z_lsub C d_X12_sumAt_85 ?_
    obtain ⟨hz86, hf⟩ := gdn hf
    refine z_ldiv C d_X12_sumAt_86 hz86 ?_
    refine z_lstore (lv' := [(5, aJ ((q55.1 - q63.1) / (q74.1 - q82.1))), (0, aR 20), (1, aI v1), (2, aJ v2), (4, aI v4)]) C d_X12_sumAt_87 (by decide) rfl ?_
    exact z_sub [1, 2, 3, 4, 0] rfl (t_X12_sumAt_89 C hr  _ _ _ _ _ hf)
def f_X12_sumAt_9B (k9 : Int32 → Int64 → Int32 → Mem → Option (Int64 × Mem)) (v1 : Int32) (v2 : Int64) (v4 : Int32) (S : Mem) : Option (Int64 × Mem) := ((f_X12_markOf v1 v4 0 S).bind fun q14 => (if q14.1 ≤ v2 then ((f_X12_zoneNow v1 q14.2).bind fun q30 => (f_X12_sumAt_36  v1 v2 v4 (q30.1.toInt64) q30.2)) else (k9 v1 v2 (v4 + (-1)) q14.2)))
set_option maxRecDepth 20000 in
theorem t_X12_sumAt_9B {X : MC} {Γ : GG} (C : CX X Γ cX12_sumAt 7 "TickPoolsModel" 2 45) (hr : X.2.2.2.2.2.2.2.2.1.sig.returnType = some .long) {k9 : Int32 → Int64 → Int32 → Mem → Option (Int64 × Mem)} {q : Int64 × Mem} (hk9 : ∀ (v1 : Int32) (v2 : Int64) (v4 : Int32) (S : Mem), k9 v1 v2 v4 S = some q → ZZ X Γ 7 (QQ X Γ (some (aJ q.1)) q.2) S 9 [(0, aR 20), (1, aI v1), (2, aJ v2), (4, aI v4)] []) (v1 : Int32) (v2 : Int64) (v4 : Int32) (S : Mem) (hf : f_X12_sumAt_9B k9 v1 v2 v4 S = some q) : ZZ X Γ 7 (QQ X Γ (some (aJ q.1)) q.2) S 9 [(0, aR 20), (1, aI v1), (2, aJ v2), (4, aI v4)] [] := by
  unfold f_X12_sumAt_9B at hf
  refine z_aload_n (j := 0) C d_X12_sumAt_9 rfl ?_
  refine z_iload_n (j := 1) C d_X12_sumAt_10 rfl ?_
  refine z_iload (j := 3) C d_X12_sumAt_11 rfl ?_
  refine z_iconst (v := 0) C d_X12_sumAt_13 (by decide) ?_
  obtain ⟨q14, hF, hf⟩ := bd hf
  refine z_callV1 (rest := []) C [aI v1, aI v4, aI 0] rfl (by decide) rfl rfl k_X12_markOf tw_1578 ⟨by decide, by decide⟩ (Nat.le_of_ble_eq_true rfl) d_X12_sumAt_14 (c_X12_markOf C.inj hF) rfl ?_
  refine z_lload_n (j := 2) C d_X12_sumAt_17 rfl ?_
  refine z_lle (tgt := 28) C d_X12_sumAt_18 d_X12_sumAt_19 (by decide) hf (fun c18 hf => ?_) (fun c18 hf => ?_)
  · refine z_aload_n (j := 0) C d_X12_sumAt_28 rfl ?_
    refine z_iload_n (j := 1) C d_X12_sumAt_29 rfl ?_
    obtain ⟨q30, hF, hf⟩ := bd hf
    refine z_callV1 (rest := []) C [aI v1] rfl (by decide) rfl rfl k_X12_zoneNow tw_1499 ⟨by decide, by decide⟩ (Nat.le_of_ble_eq_true rfl) d_X12_sumAt_30 (c_X12_zoneNow C.inj hF) rfl ?_
    refine z_i2l C d_X12_sumAt_33 ?_
    refine z_lstore (lv' := [(5, aJ (q30.1.toInt64)), (0, aR 20), (1, aI v1), (2, aJ v2), (4, aI v4)]) C d_X12_sumAt_34 (by decide) rfl ?_
    exact z_sub [1, 2, 3, 4, 0] rfl (t_X12_sumAt_36 C hr  _ _ _ _ _ hf)
  · refine z_iinc (j := 3) (v := (v4 + (-1))) (lv' := [(4, aI (v4 + (-1))), (0, aR 20), (1, aI v1), (2, aJ v2)]) C d_X12_sumAt_22 rfl rfl (by decide) rfl ?_
    refine z_goto (tgt := 9) C d_X12_sumAt_25 (by decide) ?_
    exact z_sub [1, 2, 3, 0] rfl (hk9 _ _ _ _ hf)
def f_X12_sumAt_9 : Nat → Int32 → Int64 → Int32 → Mem → Option (Int64 × Mem)
  | 0 => fun _ _ _ _ => none
  | n + 1 => f_X12_sumAt_9B (f_X12_sumAt_9 n)
theorem t_X12_sumAt_9 {X : MC} {Γ : GG} (C : CX X Γ cX12_sumAt 7 "TickPoolsModel" 2 45) (hr : X.2.2.2.2.2.2.2.2.1.sig.returnType = some .long) {q : Int64 × Mem} : ∀ (n : Nat) (v1 : Int32) (v2 : Int64) (v4 : Int32) (S : Mem) (hf : f_X12_sumAt_9 n v1 v2 v4 S = some q), ZZ X Γ 7 (QQ X Γ (some (aJ q.1)) q.2) S 9 [(0, aR 20), (1, aI v1), (2, aJ v2), (4, aI v4)] []
  | 0, _, _, _, _, hf => nomatch (show (none : Option (Int64 × Mem)) = some q from hf)
  | n + 1, v1, v2, v4, S, hf => t_X12_sumAt_9B C hr (t_X12_sumAt_9 C hr n) v1 v2 v4 S hf
/-- TickPoolsModel.sumAt(IJ)J -/
def f_X12_sumAt (p1 : Int32) (p2 : Int64) (S : Mem) : Option (Int64 × Mem) := ((f_X12_marks p1 S).bind fun q2 => (f_X12_sumAt_9  100000 p1 p2 (q2.1 - 1) q2.2))
set_option maxRecDepth 20000 in
theorem c_X12_sumAt {l : Launch} {Γ : GG} (hI : Inj Γ) {p1 : Int32} {p2 : Int64} {S : Mem} {q : Int64 × Mem} (hf : f_X12_sumAt p1 p2 S = some q) : MM l Γ yX12_sumAt cX12_sumAt 7 (some .long) 2 45 [aR 20, aI p1, aJ p2] S (some (aJ q.1)) q.2 := by
  refine met_of hI "TickPoolsModel" rfl (by decide +kernel) (Nat.le_of_ble_eq_true rfl) (fun X hX C hr => ?_)
  unfold f_X12_sumAt at hf
  show ZZ X Γ 7 _ S 0 [(0, aR 20), (1, aI p1), (2, aJ p2)] []
  refine z_aload_n (j := 0) C d_X12_sumAt_0 rfl ?_
  refine z_iload_n (j := 1) C d_X12_sumAt_1 rfl ?_
  obtain ⟨q2, hF, hf⟩ := bd hf
  refine z_callV1 (rest := []) C [aI p1] rfl (by decide) rfl rfl k_X12_marks tw_1586 ⟨by decide, by decide⟩ (Nat.le_of_ble_eq_true rfl) d_X12_sumAt_2 (c_X12_marks C.inj hF) rfl ?_
  refine z_iconst (v := 1) C d_X12_sumAt_5 (by decide) ?_
  refine z_isub C d_X12_sumAt_6 ?_
  refine z_istore (lv' := [(4, aI (q2.1 - 1)), (0, aR 20), (1, aI p1), (2, aJ p2)]) C d_X12_sumAt_7 (by decide) rfl ?_
  exact z_sub [1, 2, 3, 0] rfl (t_X12_sumAt_9 C hr  100000 _ _ _ _ hf)
theorem d_X12_marksNow_0 : decode cX12_marksNow 0 = .ok (.aload_n 0, 1) := by decide +kernel
theorem d_X12_marksNow_1 : decode cX12_marksNow 1 = .ok (.iload_n 1, 1) := by decide +kernel
theorem d_X12_marksNow_2 : decode cX12_marksNow 2 = .ok (.aload_n 0, 1) := by decide +kernel
theorem d_X12_marksNow_3 : decode cX12_marksNow 3 = .ok (.iload_n 1, 1) := by decide +kernel
theorem d_X12_marksNow_4 : decode cX12_marksNow 4 = .ok (.invokevirtual 373, 3) := by decide +kernel
theorem d_X12_marksNow_7 : decode cX12_marksNow 7 = .ok (.iconst 1, 1) := by decide +kernel
theorem d_X12_marksNow_8 : decode cX12_marksNow 8 = .ok (.isub, 1) := by decide +kernel
theorem d_X12_marksNow_9 : decode cX12_marksNow 9 = .ok (.iconst 0, 1) := by decide +kernel
theorem d_X12_marksNow_10 : decode cX12_marksNow 10 = .ok (.invokevirtual 376, 3) := by decide +kernel
theorem d_X12_marksNow_13 : decode cX12_marksNow 13 = .ok (.aload_n 0, 1) := by decide +kernel
theorem d_X12_marksNow_14 : decode cX12_marksNow 14 = .ok (.getfield 17, 3) := by decide +kernel
theorem d_X12_marksNow_17 : decode cX12_marksNow 17 = .ok (.iconst 0, 1) := by decide +kernel
theorem d_X12_marksNow_18 : decode cX12_marksNow 18 = .ok (.laload, 1) := by decide +kernel
theorem d_X12_marksNow_19 : decode cX12_marksNow 19 = .ok (.lcmp, 1) := by decide +kernel
theorem d_X12_marksNow_20 : decode cX12_marksNow 20 = .ok (.ifCond .ne 4, 3) := by decide +kernel
theorem d_X12_marksNow_23 : decode cX12_marksNow 23 = .ok (.return_, 1) := by decide +kernel
theorem d_X12_marksNow_24 : decode cX12_marksNow 24 = .ok (.aload_n 0, 1) := by decide +kernel
theorem d_X12_marksNow_25 : decode cX12_marksNow 25 = .ok (.iload_n 1, 1) := by decide +kernel
theorem d_X12_marksNow_26 : decode cX12_marksNow 26 = .ok (.aload_n 0, 1) := by decide +kernel
theorem d_X12_marksNow_27 : decode cX12_marksNow 27 = .ok (.getfield 17, 3) := by decide +kernel
theorem d_X12_marksNow_30 : decode cX12_marksNow 30 = .ok (.iconst 0, 1) := by decide +kernel
theorem d_X12_marksNow_31 : decode cX12_marksNow 31 = .ok (.laload, 1) := by decide +kernel
theorem d_X12_marksNow_32 : decode cX12_marksNow 32 = .ok (.invokevirtual 379, 3) := by decide +kernel
theorem d_X12_marksNow_35 : decode cX12_marksNow 35 = .ok (.lstore_n 2, 1) := by decide +kernel
theorem d_X12_marksNow_36 : decode cX12_marksNow 36 = .ok (.aload_n 0, 1) := by decide +kernel
theorem d_X12_marksNow_37 : decode cX12_marksNow 37 = .ok (.iload_n 1, 1) := by decide +kernel
theorem d_X12_marksNow_38 : decode cX12_marksNow 38 = .ok (.invokevirtual 373, 3) := by decide +kernel
theorem d_X12_marksNow_41 : decode cX12_marksNow 41 = .ok (.bipush 8, 2) := by decide +kernel
theorem d_X12_marksNow_43 : decode cX12_marksNow 43 = .ok (.if_icmp .ne 51, 3) := by decide +kernel
theorem d_X12_marksNow_46 : decode cX12_marksNow 46 = .ok (.iconst 0, 1) := by decide +kernel
theorem d_X12_marksNow_47 : decode cX12_marksNow 47 = .ok (.istore 4, 2) := by decide +kernel
theorem d_X12_marksNow_49 : decode cX12_marksNow 49 = .ok (.iload 4, 2) := by decide +kernel
theorem d_X12_marksNow_51 : decode cX12_marksNow 51 = .ok (.bipush 14, 2) := by decide +kernel
theorem d_X12_marksNow_53 : decode cX12_marksNow 53 = .ok (.if_icmp .ge 31, 3) := by decide +kernel
theorem d_X12_marksNow_56 : decode cX12_marksNow 56 = .ok (.aload_n 0, 1) := by decide +kernel
theorem d_X12_marksNow_57 : decode cX12_marksNow 57 = .ok (.iload_n 1, 1) := by decide +kernel
theorem d_X12_marksNow_58 : decode cX12_marksNow 58 = .ok (.bipush 7, 2) := by decide +kernel
theorem d_X12_marksNow_60 : decode cX12_marksNow 60 = .ok (.iload 4, 2) := by decide +kernel
theorem d_X12_marksNow_62 : decode cX12_marksNow 62 = .ok (.iadd, 1) := by decide +kernel
theorem d_X12_marksNow_63 : decode cX12_marksNow 63 = .ok (.aload_n 0, 1) := by decide +kernel
theorem d_X12_marksNow_64 : decode cX12_marksNow 64 = .ok (.iload_n 1, 1) := by decide +kernel
theorem d_X12_marksNow_65 : decode cX12_marksNow 65 = .ok (.bipush 7, 2) := by decide +kernel
theorem d_X12_marksNow_67 : decode cX12_marksNow 67 = .ok (.iload 4, 2) := by decide +kernel
theorem d_X12_marksNow_69 : decode cX12_marksNow 69 = .ok (.iadd, 1) := by decide +kernel
theorem d_X12_marksNow_70 : decode cX12_marksNow 70 = .ok (.iconst 2, 1) := by decide +kernel
theorem d_X12_marksNow_71 : decode cX12_marksNow 71 = .ok (.iadd, 1) := by decide +kernel
theorem d_X12_marksNow_72 : decode cX12_marksNow 72 = .ok (.invokevirtual 116, 3) := by decide +kernel
theorem d_X12_marksNow_75 : decode cX12_marksNow 75 = .ok (.invokevirtual 208, 3) := by decide +kernel
theorem d_X12_marksNow_78 : decode cX12_marksNow 78 = .ok (.iinc 4 1, 3) := by decide +kernel
theorem d_X12_marksNow_81 : decode cX12_marksNow 81 = .ok (.goto (-32), 3) := by decide +kernel
theorem d_X12_marksNow_84 : decode cX12_marksNow 84 = .ok (.aload_n 0, 1) := by decide +kernel
theorem d_X12_marksNow_85 : decode cX12_marksNow 85 = .ok (.iload_n 1, 1) := by decide +kernel
theorem d_X12_marksNow_86 : decode cX12_marksNow 86 = .ok (.bipush 6, 2) := by decide +kernel
theorem d_X12_marksNow_88 : decode cX12_marksNow 88 = .ok (.ldc2_w 382, 3) := by decide +kernel
theorem d_X12_marksNow_91 : decode cX12_marksNow 91 = .ok (.invokevirtual 253, 3) := by decide +kernel
theorem d_X12_marksNow_94 : decode cX12_marksNow 94 = .ok (.aload_n 0, 1) := by decide +kernel
theorem d_X12_marksNow_95 : decode cX12_marksNow 95 = .ok (.iload_n 1, 1) := by decide +kernel
theorem d_X12_marksNow_96 : decode cX12_marksNow 96 = .ok (.bipush 7, 2) := by decide +kernel
theorem d_X12_marksNow_98 : decode cX12_marksNow 98 = .ok (.iconst 2, 1) := by decide +kernel
theorem d_X12_marksNow_99 : decode cX12_marksNow 99 = .ok (.aload_n 0, 1) := by decide +kernel
theorem d_X12_marksNow_100 : decode cX12_marksNow 100 = .ok (.iload_n 1, 1) := by decide +kernel
theorem d_X12_marksNow_101 : decode cX12_marksNow 101 = .ok (.invokevirtual 373, 3) := by decide +kernel
theorem d_X12_marksNow_104 : decode cX12_marksNow 104 = .ok (.imul, 1) := by decide +kernel
theorem d_X12_marksNow_105 : decode cX12_marksNow 105 = .ok (.iadd, 1) := by decide +kernel
theorem d_X12_marksNow_106 : decode cX12_marksNow 106 = .ok (.aload_n 0, 1) := by decide +kernel
theorem d_X12_marksNow_107 : decode cX12_marksNow 107 = .ok (.getfield 17, 3) := by decide +kernel
theorem d_X12_marksNow_110 : decode cX12_marksNow 110 = .ok (.iconst 0, 1) := by decide +kernel
theorem d_X12_marksNow_111 : decode cX12_marksNow 111 = .ok (.laload, 1) := by decide +kernel
theorem d_X12_marksNow_112 : decode cX12_marksNow 112 = .ok (.invokevirtual 208, 3) := by decide +kernel
theorem d_X12_marksNow_115 : decode cX12_marksNow 115 = .ok (.aload_n 0, 1) := by decide +kernel
theorem d_X12_marksNow_116 : decode cX12_marksNow 116 = .ok (.iload_n 1, 1) := by decide +kernel
theorem d_X12_marksNow_117 : decode cX12_marksNow 117 = .ok (.bipush 7, 2) := by decide +kernel
theorem d_X12_marksNow_119 : decode cX12_marksNow 119 = .ok (.iconst 2, 1) := by decide +kernel
theorem d_X12_marksNow_120 : decode cX12_marksNow 120 = .ok (.aload_n 0, 1) := by decide +kernel
theorem d_X12_marksNow_121 : decode cX12_marksNow 121 = .ok (.iload_n 1, 1) := by decide +kernel
theorem d_X12_marksNow_122 : decode cX12_marksNow 122 = .ok (.invokevirtual 373, 3) := by decide +kernel
theorem d_X12_marksNow_125 : decode cX12_marksNow 125 = .ok (.imul, 1) := by decide +kernel
theorem d_X12_marksNow_126 : decode cX12_marksNow 126 = .ok (.iadd, 1) := by decide +kernel
theorem d_X12_marksNow_127 : decode cX12_marksNow 127 = .ok (.iconst 1, 1) := by decide +kernel
theorem d_X12_marksNow_128 : decode cX12_marksNow 128 = .ok (.iadd, 1) := by decide +kernel
theorem d_X12_marksNow_129 : decode cX12_marksNow 129 = .ok (.lload_n 2, 1) := by decide +kernel
theorem d_X12_marksNow_130 : decode cX12_marksNow 130 = .ok (.invokevirtual 208, 3) := by decide +kernel
theorem d_X12_marksNow_133 : decode cX12_marksNow 133 = .ok (.aload_n 0, 1) := by decide +kernel
theorem d_X12_marksNow_134 : decode cX12_marksNow 134 = .ok (.iload_n 1, 1) := by decide +kernel
theorem d_X12_marksNow_135 : decode cX12_marksNow 135 = .ok (.bipush 6, 2) := by decide +kernel
theorem d_X12_marksNow_137 : decode cX12_marksNow 137 = .ok (.lconst 1, 1) := by decide +kernel
theorem d_X12_marksNow_138 : decode cX12_marksNow 138 = .ok (.invokevirtual 253, 3) := by decide +kernel
theorem d_X12_marksNow_141 : decode cX12_marksNow 141 = .ok (.return_, 1) := by decide +kernel
def f_X12_marksNow_94 (v1 : Int32) (v2 : Int64) (S : Mem) : Option (Unit × Mem) := ((f_X12_marks v1 S).bind fun q101 => ((f_X12_setPool v1 (7 + (2 * q101.1)) (gL q101.2 23 ((0 : Int32).toNatClampNeg)) q101.2).bind fun q112 => ((f_X12_marks v1 q112.2).bind fun q122 => ((f_X12_setPool v1 ((7 + (2 * q122.1)) + 1) v2 q122.2).bind fun q130 => ((f_X12_morePool v1 6 1 q130.2).bind fun q138 => (some ((), q138.2)))))))
set_option maxRecDepth 20000 in
theorem t_X12_marksNow_94 {X : MC} {Γ : GG} (C : CX X Γ cX12_marksNow 5 "TickPoolsModel" 3 71) (hr : X.2.2.2.2.2.2.2.2.1.sig.returnType = none) {q : Unit × Mem} (v1 : Int32) (v2 : Int64) (S : Mem) (hf : f_X12_marksNow_94 v1 v2 S = some q) : ZZ X Γ 5 (QQ X Γ none q.2) S 94 [(0, aR 20), (1, aI v1), (2, aJ v2)] [] := by
  unfold f_X12_marksNow_94 at hf
  refine z_aload_n (j := 0) C d_X12_marksNow_94 rfl ?_
  refine z_iload_n (j := 1) C d_X12_marksNow_95 rfl ?_
  refine z_bipush (v := 7) C d_X12_marksNow_96 (by decide) ?_
  refine z_iconst (v := 2) C d_X12_marksNow_98 (by decide) ?_
  refine z_aload_n (j := 0) C d_X12_marksNow_99 rfl ?_
  refine z_iload_n (j := 1) C d_X12_marksNow_100 rfl ?_
  obtain ⟨q101, hF, hf⟩ := bd hf
  refine z_callV1 (rest := [aI 2, aI 7, aI v1, aR 20]) C [aI v1] rfl (by decide) rfl rfl k_X12_marks tw_1586 ⟨by decide, by decide⟩ (Nat.le_of_ble_eq_true rfl) d_X12_marksNow_101 (c_X12_marks C.inj hF) rfl ?_
  refine z_imul C d_X12_marksNow_104 ?_
  refine z_iadd C d_X12_marksNow_105 ?_
  refine z_aload_n (j := 0) C d_X12_marksNow_106 rfl ?_
  refine zg_X12_now C rfl tw_1216 d_X12_marksNow_107 ?_
  refine z_iconst (v := 0) C d_X12_marksNow_110 (by decide) ?_
  refine z_lald C rfl (by decide) d_X12_marksNow_111 ?_
  obtain ⟨q112, hF, hf⟩ := bd hf
  refine z_callV0 (rest := []) C [aI v1, aI (7 + (2 * q101.1)), aJ (gL q101.2 23 ((0 : Int32).toNatClampNeg))] rfl (by decide) rfl rfl k_X12_setPool tw_1451 ⟨by decide, by decide⟩ (Nat.le_of_ble_eq_true rfl) d_X12_marksNow_112 (c_X12_setPool C.inj hF) rfl ?_
  refine z_aload_n (j := 0) C d_X12_marksNow_115 rfl ?_
  refine z_iload_n (j := 1) C d_X12_marksNow_116 rfl ?_
  refine z_bipush (v := 7) C d_X12_marksNow_117 (by decide) ?_
  refine z_iconst (v := 2) C d_X12_marksNow_119 (by decide) ?_
  refine z_aload_n (j := 0) C d_X12_marksNow_120 rfl ?_
  refine z_iload_n (j := 1) C d_X12_marksNow_121 rfl ?_
  obtain ⟨q122, hF, hf⟩ := bd hf
  refine z_callV1 (rest := [aI 2, aI 7, aI v1, aR 20]) C [aI v1] rfl (by decide) rfl rfl k_X12_marks tw_1586 ⟨by decide, by decide⟩ (Nat.le_of_ble_eq_true rfl) d_X12_marksNow_122 (c_X12_marks C.inj hF) rfl ?_
  refine z_imul C d_X12_marksNow_125 ?_
  refine z_iadd C d_X12_marksNow_126 ?_
  refine z_iconst (v := 1) C d_X12_marksNow_127 (by decide) ?_
  refine z_iadd C d_X12_marksNow_128 ?_
  refine z_lload_n (j := 2) C d_X12_marksNow_129 rfl ?_
  obtain ⟨q130, hF, hf⟩ := bd hf
  refine z_callV0 (rest := []) C [aI v1, aI ((7 + (2 * q122.1)) + 1), aJ v2] rfl (by decide) rfl rfl k_X12_setPool tw_1451 ⟨by decide, by decide⟩ (Nat.le_of_ble_eq_true rfl) d_X12_marksNow_130 (c_X12_setPool C.inj hF) rfl ?_
  refine z_aload_n (j := 0) C d_X12_marksNow_133 rfl ?_
  refine z_iload_n (j := 1) C d_X12_marksNow_134 rfl ?_
  refine z_bipush (v := 6) C d_X12_marksNow_135 (by decide) ?_
  refine z_lconst (v := 1) C d_X12_marksNow_137 (by decide) ?_
  obtain ⟨q138, hF, hf⟩ := bd hf
  refine z_callV0 (rest := []) C [aI v1, aI 6, aJ 1] rfl (by decide) rfl rfl k_X12_morePool tw_1542 ⟨by decide, by decide⟩ (Nat.le_of_ble_eq_true rfl) d_X12_marksNow_138 (c_X12_morePool C.inj hF) rfl ?_
  exact r_v C hr d_X12_marksNow_141 hf
def f_X12_marksNow_49B (k49 : Int32 → Int64 → Int32 → Mem → Option (Unit × Mem)) (v1 : Int32) (v2 : Int64) (v4 : Int32) (S : Mem) : Option (Unit × Mem) := (if 14 ≤ v4 then ((f_X12_morePool v1 6 (-1) S).bind fun q91 => (f_X12_marksNow_94  v1 v2 q91.2)) else ((f_X12_ofPool v1 ((7 + v4) + 2) S).bind fun q72 => ((f_X12_setPool v1 (7 + v4) q72.1 q72.2).bind fun q75 => (k49 v1 v2 (v4 + 1) q75.2))))
set_option maxRecDepth 20000 in
theorem t_X12_marksNow_49B {X : MC} {Γ : GG} (C : CX X Γ cX12_marksNow 5 "TickPoolsModel" 3 71) (hr : X.2.2.2.2.2.2.2.2.1.sig.returnType = none) {k49 : Int32 → Int64 → Int32 → Mem → Option (Unit × Mem)} {q : Unit × Mem} (hk49 : ∀ (v1 : Int32) (v2 : Int64) (v4 : Int32) (S : Mem), k49 v1 v2 v4 S = some q → ZZ X Γ 5 (QQ X Γ none q.2) S 49 [(0, aR 20), (1, aI v1), (2, aJ v2), (4, aI v4)] []) (v1 : Int32) (v2 : Int64) (v4 : Int32) (S : Mem) (hf : f_X12_marksNow_49B k49 v1 v2 v4 S = some q) : ZZ X Γ 5 (QQ X Γ none q.2) S 49 [(0, aR 20), (1, aI v1), (2, aJ v2), (4, aI v4)] [] := by
  unfold f_X12_marksNow_49B at hf
  refine z_iload (j := 3) C d_X12_marksNow_49 rfl ?_
  refine z_bipush (v := 14) C d_X12_marksNow_51 (by decide) ?_
  refine z_icmp_ge (tgt := 84) C d_X12_marksNow_53 (by decide) hf (fun c53 hf => ?_) (fun c53 hf => ?_)
  · refine z_aload_n (j := 0) C d_X12_marksNow_84 rfl ?_
    refine z_iload_n (j := 1) C d_X12_marksNow_85 rfl ?_
    refine z_bipush (v := 6) C d_X12_marksNow_86 (by decide) ?_
    refine z_ldc2 (v := (-1)) C tw_1607 d_X12_marksNow_88 ?_
    obtain ⟨q91, hF, hf⟩ := bd hf
    refine z_callV0 (rest := []) C [aI v1, aI 6, aJ (-1)] rfl (by decide) rfl rfl k_X12_morePool tw_1542 ⟨by decide, by decide⟩ (Nat.le_of_ble_eq_true rfl) d_X12_marksNow_91 (c_X12_morePool C.inj hF) rfl ?_
    exact z_sub [0, 1, 2] rfl (t_X12_marksNow_94 C hr  _ _ _ hf)
  · refine z_aload_n (j := 0) C d_X12_marksNow_56 rfl ?_
    refine z_iload_n (j := 1) C d_X12_marksNow_57 rfl ?_
    refine z_bipush (v := 7) C d_X12_marksNow_58 (by decide) ?_
    refine z_iload (j := 3) C d_X12_marksNow_60 rfl ?_
    refine z_iadd C d_X12_marksNow_62 ?_
    refine z_aload_n (j := 0) C d_X12_marksNow_63 rfl ?_
    refine z_iload_n (j := 1) C d_X12_marksNow_64 rfl ?_
    refine z_bipush (v := 7) C d_X12_marksNow_65 (by decide) ?_
    refine z_iload (j := 3) C d_X12_marksNow_67 rfl ?_
    refine z_iadd C d_X12_marksNow_69 ?_
    refine z_iconst (v := 2) C d_X12_marksNow_70 (by decide) ?_
    refine z_iadd C d_X12_marksNow_71 ?_
    obtain ⟨q72, hF, hf⟩ := bd hf
    refine z_callV1 (rest := [aI (7 + v4), aI v1, aR 20]) C [aI v1, aI ((7 + v4) + 2)] rfl (by decide) rfl rfl k_X12_ofPool tw_1503 ⟨by decide, by decide⟩ (Nat.le_of_ble_eq_true rfl) d_X12_marksNow_72 (c_X12_ofPool C.inj hF) rfl ?_
    obtain ⟨q75, hF, hf⟩ := bd hf
    refine z_callV0 (rest := []) C [aI v1, aI (7 + v4), aJ q72.1] rfl (by decide) rfl rfl k_X12_setPool tw_1451 ⟨by decide, by decide⟩ (Nat.le_of_ble_eq_true rfl) d_X12_marksNow_75 (c_X12_setPool C.inj hF) rfl ?_
    refine z_iinc (j := 3) (v := (v4 + 1)) (lv' := [(4, aI (v4 + 1)), (0, aR 20), (1, aI v1), (2, aJ v2)]) C d_X12_marksNow_78 rfl rfl (by decide) rfl ?_
    refine z_goto (tgt := 49) C d_X12_marksNow_81 (by decide) ?_
    exact z_sub [1, 2, 3, 0] rfl (hk49 _ _ _ _ hf)
def f_X12_marksNow_49 : Nat → Int32 → Int64 → Int32 → Mem → Option (Unit × Mem)
  | 0 => fun _ _ _ _ => none
  | n + 1 => f_X12_marksNow_49B (f_X12_marksNow_49 n)
theorem t_X12_marksNow_49 {X : MC} {Γ : GG} (C : CX X Γ cX12_marksNow 5 "TickPoolsModel" 3 71) (hr : X.2.2.2.2.2.2.2.2.1.sig.returnType = none) {q : Unit × Mem} : ∀ (n : Nat) (v1 : Int32) (v2 : Int64) (v4 : Int32) (S : Mem) (hf : f_X12_marksNow_49 n v1 v2 v4 S = some q), ZZ X Γ 5 (QQ X Γ none q.2) S 49 [(0, aR 20), (1, aI v1), (2, aJ v2), (4, aI v4)] []
  | 0, _, _, _, _, hf => nomatch (show (none : Option (Unit × Mem)) = some q from hf)
  | n + 1, v1, v2, v4, S, hf => t_X12_marksNow_49B C hr (t_X12_marksNow_49 C hr n) v1 v2 v4 S hf
/-- TickPoolsModel.marksNow(I)V -/
def f_X12_marksNow (p1 : Int32) (S : Mem) : Option (Unit × Mem) := ((f_X12_marks p1 S).bind fun q4 => ((f_X12_markOf p1 (q4.1 - 1) 0 q4.2).bind fun q10 => (if q10.1 = (gL q10.2 23 ((0 : Int32).toNatClampNeg)) then (some ((), q10.2)) else ((f_X12_sumAt p1 (gL q10.2 23 ((0 : Int32).toNatClampNeg)) q10.2).bind fun q32 => ((f_X12_marks p1 q32.2).bind fun q38 => (if q38.1 = 8 then (f_X12_marksNow_49  100000 p1 q32.1 0 q38.2) else (f_X12_marksNow_94  p1 q32.1 q38.2)))))))
set_option maxRecDepth 20000 in
theorem c_X12_marksNow {l : Launch} {Γ : GG} (hI : Inj Γ) {p1 : Int32} {S : Mem} {q : Unit × Mem} (hf : f_X12_marksNow p1 S = some q) : MM l Γ yX12_marksNow cX12_marksNow 5 (none) 3 71 [aR 20, aI p1] S none q.2 := by
  refine met_of hI "TickPoolsModel" rfl (by decide +kernel) (Nat.le_of_ble_eq_true rfl) (fun X hX C hr => ?_)
  unfold f_X12_marksNow at hf
  show ZZ X Γ 5 _ S 0 [(0, aR 20), (1, aI p1)] []
  refine z_aload_n (j := 0) C d_X12_marksNow_0 rfl ?_
  refine z_iload_n (j := 1) C d_X12_marksNow_1 rfl ?_
  refine z_aload_n (j := 0) C d_X12_marksNow_2 rfl ?_
  refine z_iload_n (j := 1) C d_X12_marksNow_3 rfl ?_
  obtain ⟨q4, hF, hf⟩ := bd hf
  refine z_callV1 (rest := [aI p1, aR 20]) C [aI p1] rfl (by decide) rfl rfl k_X12_marks tw_1586 ⟨by decide, by decide⟩ (Nat.le_of_ble_eq_true rfl) d_X12_marksNow_4 (c_X12_marks C.inj hF) rfl ?_
  refine z_iconst (v := 1) C d_X12_marksNow_7 (by decide) ?_
  refine z_isub C d_X12_marksNow_8 ?_
  refine z_iconst (v := 0) C d_X12_marksNow_9 (by decide) ?_
  obtain ⟨q10, hF, hf⟩ := bd hf
  refine z_callV1 (rest := []) C [aI p1, aI (q4.1 - 1), aI 0] rfl (by decide) rfl rfl k_X12_markOf tw_1578 ⟨by decide, by decide⟩ (Nat.le_of_ble_eq_true rfl) d_X12_marksNow_10 (c_X12_markOf C.inj hF) rfl ?_
  refine z_aload_n (j := 0) C d_X12_marksNow_13 rfl ?_
  refine zg_X12_now C rfl tw_1216 d_X12_marksNow_14 ?_
  refine z_iconst (v := 0) C d_X12_marksNow_17 (by decide) ?_
  refine z_lald C rfl (by decide) d_X12_marksNow_18 ?_
  refine z_lne (tgt := 24) C d_X12_marksNow_19 d_X12_marksNow_20 (by decide) hf (fun c19 hf => ?_) (fun c19 hf => ?_)
  · refine z_aload_n (j := 0) C d_X12_marksNow_24 rfl ?_
    refine z_iload_n (j := 1) C d_X12_marksNow_25 rfl ?_
    refine z_aload_n (j := 0) C d_X12_marksNow_26 rfl ?_
    refine zg_X12_now C rfl tw_1216 d_X12_marksNow_27 ?_
    refine z_iconst (v := 0) C d_X12_marksNow_30 (by decide) ?_
    refine z_lald C rfl (by decide) d_X12_marksNow_31 ?_
    obtain ⟨q32, hF, hf⟩ := bd hf
    refine z_callV1 (rest := []) C [aI p1, aJ (gL q10.2 23 ((0 : Int32).toNatClampNeg))] rfl (by decide) rfl rfl k_X12_sumAt tw_1582 ⟨by decide, by decide⟩ (Nat.le_of_ble_eq_true rfl) d_X12_marksNow_32 (c_X12_sumAt C.inj hF) rfl ?_
    refine z_lstore_n (lv' := [(2, aJ q32.1), (0, aR 20), (1, aI p1)]) C d_X12_marksNow_35 (by decide) rfl ?_
    refine z_aload_n (j := 1) C d_X12_marksNow_36 rfl ?_
    refine z_iload_n (j := 2) C d_X12_marksNow_37 rfl ?_
    obtain ⟨q38, hF, hf⟩ := bd hf
    refine z_callV1 (rest := []) C [aI p1] rfl (by decide) rfl rfl k_X12_marks tw_1586 ⟨by decide, by decide⟩ (Nat.le_of_ble_eq_true rfl) d_X12_marksNow_38 (c_X12_marks C.inj hF) rfl ?_
    refine z_bipush (v := 8) C d_X12_marksNow_41 (by decide) ?_
    refine z_icmp_ne (tgt := 94) C d_X12_marksNow_43 (by decide) hf (fun c43 hf => ?_) (fun c43 hf => ?_)
    · exact z_sub [1, 2, 0] rfl (t_X12_marksNow_94 C hr  _ _ _ hf)
    · refine z_iconst (v := 0) C d_X12_marksNow_46 (by decide) ?_
      refine z_istore (lv' := [(4, aI 0), (2, aJ q32.1), (0, aR 20), (1, aI p1)]) C d_X12_marksNow_47 (by decide) rfl ?_
      exact z_sub [2, 3, 1, 0] rfl (t_X12_marksNow_49 C hr  100000 _ _ _ _ hf)
  · exact r_v C hr d_X12_marksNow_23 hf
theorem d_X12_mean_0 : decode cX12_mean 0 = .ok (.aload_n 0, 1) := by decide +kernel
theorem d_X12_mean_1 : decode cX12_mean 1 = .ok (.iload_n 1, 1) := by decide +kernel
theorem d_X12_mean_2 : decode cX12_mean 2 = .ok (.invokevirtual 284, 3) := by decide +kernel
theorem d_X12_mean_5 : decode cX12_mean 5 = .ok (.ifCond .eq 8, 3) := by decide +kernel
theorem d_X12_mean_8 : decode cX12_mean 8 = .ok (.iload_n 2, 1) := by decide +kernel
theorem d_X12_mean_9 : decode cX12_mean 9 = .ok (.iconst 1, 1) := by decide +kernel
theorem d_X12_mean_10 : decode cX12_mean 10 = .ok (.if_icmp .ge 5, 3) := by decide +kernel
theorem d_X12_mean_13 : decode cX12_mean 13 = .ok (.iconst (-1), 1) := by decide +kernel
theorem d_X12_mean_14 : decode cX12_mean 14 = .ok (.ireturn, 1) := by decide +kernel
theorem d_X12_mean_15 : decode cX12_mean 15 = .ok (.aload_n 0, 1) := by decide +kernel
theorem d_X12_mean_16 : decode cX12_mean 16 = .ok (.getfield 17, 3) := by decide +kernel
theorem d_X12_mean_19 : decode cX12_mean 19 = .ok (.iconst 0, 1) := by decide +kernel
theorem d_X12_mean_20 : decode cX12_mean 20 = .ok (.laload, 1) := by decide +kernel
theorem d_X12_mean_21 : decode cX12_mean 21 = .ok (.iload_n 2, 1) := by decide +kernel
theorem d_X12_mean_22 : decode cX12_mean 22 = .ok (.i2l, 1) := by decide +kernel
theorem d_X12_mean_23 : decode cX12_mean 23 = .ok (.lsub, 1) := by decide +kernel
theorem d_X12_mean_24 : decode cX12_mean 24 = .ok (.lstore_n 3, 1) := by decide +kernel
theorem d_X12_mean_25 : decode cX12_mean 25 = .ok (.lload_n 3, 1) := by decide +kernel
theorem d_X12_mean_26 : decode cX12_mean 26 = .ok (.aload_n 0, 1) := by decide +kernel
theorem d_X12_mean_27 : decode cX12_mean 27 = .ok (.iload_n 1, 1) := by decide +kernel
theorem d_X12_mean_28 : decode cX12_mean 28 = .ok (.iconst 0, 1) := by decide +kernel
theorem d_X12_mean_29 : decode cX12_mean 29 = .ok (.iconst 0, 1) := by decide +kernel
theorem d_X12_mean_30 : decode cX12_mean 30 = .ok (.invokevirtual 376, 3) := by decide +kernel
theorem d_X12_mean_33 : decode cX12_mean 33 = .ok (.lcmp, 1) := by decide +kernel
theorem d_X12_mean_34 : decode cX12_mean 34 = .ok (.ifCond .ge 6, 3) := by decide +kernel
theorem d_X12_mean_37 : decode cX12_mean 37 = .ok (.bipush (-2), 2) := by decide +kernel
theorem d_X12_mean_39 : decode cX12_mean 39 = .ok (.ireturn, 1) := by decide +kernel
theorem d_X12_mean_40 : decode cX12_mean 40 = .ok (.aload_n 0, 1) := by decide +kernel
theorem d_X12_mean_41 : decode cX12_mean 41 = .ok (.iload_n 1, 1) := by decide +kernel
theorem d_X12_mean_42 : decode cX12_mean 42 = .ok (.aload_n 0, 1) := by decide +kernel
theorem d_X12_mean_43 : decode cX12_mean 43 = .ok (.getfield 17, 3) := by decide +kernel
theorem d_X12_mean_46 : decode cX12_mean 46 = .ok (.iconst 0, 1) := by decide +kernel
theorem d_X12_mean_47 : decode cX12_mean 47 = .ok (.laload, 1) := by decide +kernel
theorem d_X12_mean_48 : decode cX12_mean 48 = .ok (.invokevirtual 379, 3) := by decide +kernel
theorem d_X12_mean_51 : decode cX12_mean 51 = .ok (.aload_n 0, 1) := by decide +kernel
theorem d_X12_mean_52 : decode cX12_mean 52 = .ok (.iload_n 1, 1) := by decide +kernel
theorem d_X12_mean_53 : decode cX12_mean 53 = .ok (.lload_n 3, 1) := by decide +kernel
theorem d_X12_mean_54 : decode cX12_mean 54 = .ok (.invokevirtual 379, 3) := by decide +kernel
theorem d_X12_mean_57 : decode cX12_mean 57 = .ok (.lsub, 1) := by decide +kernel
theorem d_X12_mean_58 : decode cX12_mean 58 = .ok (.iload_n 2, 1) := by decide +kernel
theorem d_X12_mean_59 : decode cX12_mean 59 = .ok (.i2l, 1) := by decide +kernel
theorem d_X12_mean_60 : decode cX12_mean 60 = .ok (.ldiv, 1) := by decide +kernel
theorem d_X12_mean_61 : decode cX12_mean 61 = .ok (.l2i, 1) := by decide +kernel
theorem d_X12_mean_62 : decode cX12_mean 62 = .ok (.ireturn, 1) := by decide +kernel
def f_X12_mean_13 (S : Mem) : Option (Int32 × Mem) := (some ((-1), S))
set_option maxRecDepth 20000 in
theorem t_X12_mean_13 {X : MC} {Γ : GG} (C : CX X Γ cX12_mean 5 "TickPoolsModel" 3 71) (hr : X.2.2.2.2.2.2.2.2.1.sig.returnType = some .int) {q : Int32 × Mem} (S : Mem) (hf : f_X12_mean_13 S = some q) : ZZ X Γ 5 (QQ X Γ (some (aI q.1)) q.2) S 13 [] [] := by
  unfold f_X12_mean_13 at hf
  refine z_iconst (v := (-1)) C d_X12_mean_13 (by decide) ?_
  exact r_i C hr rfl d_X12_mean_14 hf
def f_X12_mean_25 (v1 : Int32) (v2 : Int32) (v3 : Int64) (S : Mem) : Option (Int32 × Mem) := ((f_X12_markOf v1 0 0 S).bind fun q30 => (if q30.1 ≤ v3 then ((f_X12_sumAt v1 (gL q30.2 23 ((0 : Int32).toNatClampNeg)) q30.2).bind fun q48 => ((f_X12_sumAt v1 v3 q48.2).bind fun q54 => (if (v2.toInt64) = 0 then none else (some (((((q48.1 - q54.1) / (v2.toInt64)) : Int64).toInt32), q54.2))))) else (some ((-2), q30.2))))
set_option maxRecDepth 20000 in
theorem t_X12_mean_25 {X : MC} {Γ : GG} (C : CX X Γ cX12_mean 5 "TickPoolsModel" 3 71) (hr : X.2.2.2.2.2.2.2.2.1.sig.returnType = some .int) {q : Int32 × Mem} (v1 : Int32) (v2 : Int32) (v3 : Int64) (S : Mem) (hf : f_X12_mean_25 v1 v2 v3 S = some q) : ZZ X Γ 5 (QQ X Γ (some (aI q.1)) q.2) S 25 [(0, aR 20), (1, aI v1), (2, aI v2), (3, aJ v3)] [] := by
  unfold f_X12_mean_25 at hf
  refine z_lload_n (j := 3) C d_X12_mean_25 rfl ?_
  refine z_aload_n (j := 0) C d_X12_mean_26 rfl ?_
  refine z_iload_n (j := 1) C d_X12_mean_27 rfl ?_
  refine z_iconst (v := 0) C d_X12_mean_28 (by decide) ?_
  refine z_iconst (v := 0) C d_X12_mean_29 (by decide) ?_
  obtain ⟨q30, hF, hf⟩ := bd hf
  refine z_callV1 (rest := [aJ v3]) C [aI v1, aI 0, aI 0] rfl (by decide) rfl rfl k_X12_markOf tw_1578 ⟨by decide, by decide⟩ (Nat.le_of_ble_eq_true rfl) d_X12_mean_30 (c_X12_markOf C.inj hF) rfl ?_
  refine z_lge (tgt := 40) C d_X12_mean_33 d_X12_mean_34 (by decide) hf (fun c33 hf => ?_) (fun c33 hf => ?_)
  · refine z_aload_n (j := 0) C d_X12_mean_40 rfl ?_
    refine z_iload_n (j := 1) C d_X12_mean_41 rfl ?_
    refine z_aload_n (j := 0) C d_X12_mean_42 rfl ?_
    refine zg_X12_now C rfl tw_1216 d_X12_mean_43 ?_
    refine z_iconst (v := 0) C d_X12_mean_46 (by decide) ?_
    refine z_lald C rfl (by decide) d_X12_mean_47 ?_
    obtain ⟨q48, hF, hf⟩ := bd hf
    refine z_callV1 (rest := []) C [aI v1, aJ (gL q30.2 23 ((0 : Int32).toNatClampNeg))] rfl (by decide) rfl rfl k_X12_sumAt tw_1582 ⟨by decide, by decide⟩ (Nat.le_of_ble_eq_true rfl) d_X12_mean_48 (c_X12_sumAt C.inj hF) rfl ?_
    refine z_aload_n (j := 0) C d_X12_mean_51 rfl ?_
    refine z_iload_n (j := 1) C d_X12_mean_52 rfl ?_
    refine z_lload_n (j := 3) C d_X12_mean_53 rfl ?_
    obtain ⟨q54, hF, hf⟩ := bd hf
    refine z_callV1 (rest := [aJ q48.1]) C [aI v1, aJ v3] rfl (by decide) rfl rfl k_X12_sumAt tw_1582 ⟨by decide, by decide⟩ (Nat.le_of_ble_eq_true rfl) d_X12_mean_54 (c_X12_sumAt C.inj hF) rfl ?_
    refine z_lsub C d_X12_mean_57 ?_
    refine z_iload_n (j := 2) C d_X12_mean_58 rfl ?_
    refine z_i2l C d_X12_mean_59 ?_
    obtain ⟨hz60, hf⟩ := gdn hf
    refine z_ldiv C d_X12_mean_60 hz60 ?_
    refine z_l2i C d_X12_mean_61 ?_
    exact r_i C hr rfl d_X12_mean_62 hf
  · refine z_bipush (v := (-2)) C d_X12_mean_37 (by decide) ?_
    exact r_i C hr rfl d_X12_mean_39 hf
/-- TickPoolsModel.mean(II)I -/
def f_X12_mean (p1 : Int32) (p2 : Int32) (S : Mem) : Option (Int32 × Mem) := ((f_X12_isPool p1 S).bind fun q2 => (if q2.1 = 0 then (f_X12_mean_13  q2.2) else (if 1 ≤ p2 then (f_X12_mean_25  p1 p2 ((gL q2.2 23 ((0 : Int32).toNatClampNeg)) - (p2.toInt64)) q2.2) else (f_X12_mean_13  q2.2))))
set_option maxRecDepth 20000 in
theorem c_X12_mean {l : Launch} {Γ : GG} (hI : Inj Γ) {p1 : Int32} {p2 : Int32} {S : Mem} {q : Int32 × Mem} (hf : f_X12_mean p1 p2 S = some q) : MM l Γ yX12_mean cX12_mean 5 (some .int) 3 71 [aR 20, aI p1, aI p2] S (some (aI q.1)) q.2 := by
  refine met_of hI "TickPoolsModel" rfl (by decide +kernel) (Nat.le_of_ble_eq_true rfl) (fun X hX C hr => ?_)
  unfold f_X12_mean at hf
  show ZZ X Γ 5 _ S 0 [(0, aR 20), (1, aI p1), (2, aI p2)] []
  refine z_aload_n (j := 0) C d_X12_mean_0 rfl ?_
  refine z_iload_n (j := 1) C d_X12_mean_1 rfl ?_
  obtain ⟨q2, hF, hf⟩ := bd hf
  refine z_callV1 (rest := []) C [aI p1] rfl (by decide) rfl rfl k_X12_isPool tw_1471 ⟨by decide, by decide⟩ (Nat.le_of_ble_eq_true rfl) d_X12_mean_2 (c_X12_isPool C.inj hF) rfl ?_
  refine z_if_eq (tgt := 13) C d_X12_mean_5 (by decide) hf (fun c5 hf => ?_) (fun c5 hf => ?_)
  · exact z_sub [] rfl (t_X12_mean_13 C hr  _ hf)
  · refine z_iload_n (j := 2) C d_X12_mean_8 rfl ?_
    refine z_iconst (v := 1) C d_X12_mean_9 (by decide) ?_
    refine z_icmp_ge (tgt := 15) C d_X12_mean_10 (by decide) hf (fun c10 hf => ?_) (fun c10 hf => ?_)
    · refine z_aload_n (j := 0) C d_X12_mean_15 rfl ?_
      refine zg_X12_now C rfl tw_1216 d_X12_mean_16 ?_
      refine z_iconst (v := 0) C d_X12_mean_19 (by decide) ?_
      refine z_lald C rfl (by decide) d_X12_mean_20 ?_
      refine z_iload_n (j := 2) C d_X12_mean_21 rfl ?_
      refine z_i2l C d_X12_mean_22 ?_
      refine z_lsub C d_X12_mean_23 ?_
      refine z_lstore_n (lv' := [(3, aJ ((gL q2.2 23 ((0 : Int32).toNatClampNeg)) - (p2.toInt64))), (0, aR 20), (1, aI p1), (2, aI p2)]) C d_X12_mean_24 (by decide) rfl ?_
      exact z_sub [1, 2, 3, 0] rfl (t_X12_mean_25 C hr  _ _ _ _ hf)
    · exact z_sub [] rfl (t_X12_mean_13 C hr  _ hf)
theorem d_X12_passes_0 : decode cX12_passes 0 = .ok (.aload_n 0, 1) := by decide +kernel
theorem d_X12_passes_1 : decode cX12_passes 1 = .ok (.getfield 127, 3) := by decide +kernel
theorem d_X12_passes_4 : decode cX12_passes 4 = .ok (.ifCond .eq 31, 3) := by decide +kernel
theorem d_X12_passes_7 : decode cX12_passes 7 = .ok (.iload_n 1, 1) := by decide +kernel
theorem d_X12_passes_8 : decode cX12_passes 8 = .ok (.i2l, 1) := by decide +kernel
theorem d_X12_passes_9 : decode cX12_passes 9 = .ok (.lconst 1, 1) := by decide +kernel
theorem d_X12_passes_10 : decode cX12_passes 10 = .ok (.ldc2_w 384, 3) := by decide +kernel
theorem d_X12_passes_13 : decode cX12_passes 13 = .ok (.invokestatic 137, 3) := by decide +kernel
theorem d_X12_passes_16 : decode cX12_passes 16 = .ok (.ifCond .eq 19, 3) := by decide +kernel
theorem d_X12_passes_19 : decode cX12_passes 19 = .ok (.aload_n 0, 1) := by decide +kernel
theorem d_X12_passes_20 : decode cX12_passes 20 = .ok (.getfield 17, 3) := by decide +kernel
theorem d_X12_passes_23 : decode cX12_passes 23 = .ok (.iconst 0, 1) := by decide +kernel
theorem d_X12_passes_24 : decode cX12_passes 24 = .ok (.laload, 1) := by decide +kernel
theorem d_X12_passes_25 : decode cX12_passes 25 = .ok (.iload_n 1, 1) := by decide +kernel
theorem d_X12_passes_26 : decode cX12_passes 26 = .ok (.i2l, 1) := by decide +kernel
theorem d_X12_passes_27 : decode cX12_passes 27 = .ok (.ladd, 1) := by decide +kernel
theorem d_X12_passes_28 : decode cX12_passes 28 = .ok (.ldc2_w 386, 3) := by decide +kernel
theorem d_X12_passes_31 : decode cX12_passes 31 = .ok (.lcmp, 1) := by decide +kernel
theorem d_X12_passes_32 : decode cX12_passes 32 = .ok (.ifCond .le 5, 3) := by decide +kernel
theorem d_X12_passes_35 : decode cX12_passes 35 = .ok (.iconst (-1), 1) := by decide +kernel
theorem d_X12_passes_36 : decode cX12_passes 36 = .ok (.ireturn, 1) := by decide +kernel
theorem d_X12_passes_37 : decode cX12_passes 37 = .ok (.aload_n 0, 1) := by decide +kernel
theorem d_X12_passes_38 : decode cX12_passes 38 = .ok (.getfield 17, 3) := by decide +kernel
theorem d_X12_passes_41 : decode cX12_passes 41 = .ok (.iconst 0, 1) := by decide +kernel
theorem d_X12_passes_42 : decode cX12_passes 42 = .ok (.dup2, 1) := by decide +kernel
theorem d_X12_passes_43 : decode cX12_passes 43 = .ok (.laload, 1) := by decide +kernel
theorem d_X12_passes_44 : decode cX12_passes 44 = .ok (.iload_n 1, 1) := by decide +kernel
theorem d_X12_passes_45 : decode cX12_passes 45 = .ok (.i2l, 1) := by decide +kernel
theorem d_X12_passes_46 : decode cX12_passes 46 = .ok (.ladd, 1) := by decide +kernel
theorem d_X12_passes_47 : decode cX12_passes 47 = .ok (.lastore, 1) := by decide +kernel
theorem d_X12_passes_48 : decode cX12_passes 48 = .ok (.aload_n 0, 1) := by decide +kernel
theorem d_X12_passes_49 : decode cX12_passes 49 = .ok (.getfield 17, 3) := by decide +kernel
theorem d_X12_passes_52 : decode cX12_passes 52 = .ok (.iconst 0, 1) := by decide +kernel
theorem d_X12_passes_53 : decode cX12_passes 53 = .ok (.laload, 1) := by decide +kernel
theorem d_X12_passes_54 : decode cX12_passes 54 = .ok (.l2i, 1) := by decide +kernel
theorem d_X12_passes_55 : decode cX12_passes 55 = .ok (.ireturn, 1) := by decide +kernel
def f_X12_passes_35 (S : Mem) : Option (Int32 × Mem) := (some ((-1), S))
set_option maxRecDepth 20000 in
theorem t_X12_passes_35 {X : MC} {Γ : GG} (C : CX X Γ cX12_passes 2 "TickPoolsModel" 1 25) (hr : X.2.2.2.2.2.2.2.2.1.sig.returnType = some .int) {q : Int32 × Mem} (S : Mem) (hf : f_X12_passes_35 S = some q) : ZZ X Γ 2 (QQ X Γ (some (aI q.1)) q.2) S 35 [] [] := by
  unfold f_X12_passes_35 at hf
  refine z_iconst (v := (-1)) C d_X12_passes_35 (by decide) ?_
  exact r_i C hr rfl d_X12_passes_36 hf
/-- TickPoolsModel.passes(I)I -/
def f_X12_passes (p1 : Int32) (S : Mem) : Option (Int32 × Mem) := (if (gI S 20 1) = 0 then (f_X12_passes_35  S) else ((f_X12_isIn (p1.toInt64) 1 9999 S).bind fun q13 => (if q13.1 = 0 then (f_X12_passes_35  q13.2) else (if ((gL q13.2 23 ((0 : Int32).toNatClampNeg)) + (p1.toInt64)) ≤ 9999999 then (some ((((gL (sL q13.2 23 ((0 : Int32).toNatClampNeg) ((gL q13.2 23 ((0 : Int32).toNatClampNeg)) + (p1.toInt64))) 23 ((0 : Int32).toNatClampNeg)) : Int64).toInt32), (sL q13.2 23 ((0 : Int32).toNatClampNeg) ((gL q13.2 23 ((0 : Int32).toNatClampNeg)) + (p1.toInt64))))) else (f_X12_passes_35  q13.2)))))
set_option maxRecDepth 20000 in
theorem c_X12_passes {l : Launch} {Γ : GG} (hI : Inj Γ) {p1 : Int32} {S : Mem} {q : Int32 × Mem} (hf : f_X12_passes p1 S = some q) : MM l Γ yX12_passes cX12_passes 2 (some .int) 1 25 [aR 20, aI p1] S (some (aI q.1)) q.2 := by
  refine met_of hI "TickPoolsModel" rfl (by decide +kernel) (Nat.le_of_ble_eq_true rfl) (fun X hX C hr => ?_)
  unfold f_X12_passes at hf
  show ZZ X Γ 2 _ S 0 [(0, aR 20), (1, aI p1)] []
  refine z_aload_n (j := 0) C d_X12_passes_0 rfl ?_
  refine zg_X12_things C rfl tw_1212 d_X12_passes_1 ?_
  refine z_if_eq (tgt := 35) C d_X12_passes_4 (by decide) hf (fun c4 hf => ?_) (fun c4 hf => ?_)
  · exact z_sub [] rfl (t_X12_passes_35 C hr  _ hf)
  · refine z_iload_n (j := 1) C d_X12_passes_7 rfl ?_
    refine z_i2l C d_X12_passes_8 ?_
    refine z_lconst (v := 1) C d_X12_passes_9 (by decide) ?_
    refine z_ldc2 (v := 9999) C tw_1594 d_X12_passes_10 ?_
    obtain ⟨q13, hF, hf⟩ := bd hf
    refine z_callS1 (rest := []) C [aJ (p1.toInt64), aJ 1, aJ 9999] k_X12_isIn tw_1385 ⟨by decide, by decide⟩ (Nat.le_of_ble_eq_true rfl) d_X12_passes_13 (c_X12_isIn C.inj hF) rfl ?_
    refine z_if_eq (tgt := 35) C d_X12_passes_16 (by decide) hf (fun c16 hf => ?_) (fun c16 hf => ?_)
    · exact z_sub [] rfl (t_X12_passes_35 C hr  _ hf)
    · refine z_aload_n (j := 0) C d_X12_passes_19 rfl ?_
      refine zg_X12_now C rfl tw_1216 d_X12_passes_20 ?_
      refine z_iconst (v := 0) C d_X12_passes_23 (by decide) ?_
      refine z_lald C rfl (by decide) d_X12_passes_24 ?_
      refine z_iload_n (j := 1) C d_X12_passes_25 rfl ?_
      refine z_i2l C d_X12_passes_26 ?_
      refine z_ladd C d_X12_passes_27 ?_
      refine z_ldc2 (v := 9999999) C tw_1595 d_X12_passes_28 ?_
      refine z_lle (tgt := 37) C d_X12_passes_31 d_X12_passes_32 (by decide) hf (fun c31 hf => ?_) (fun c31 hf => ?_)
      · refine z_aload_n (j := 0) C d_X12_passes_37 rfl ?_
        refine zg_X12_now C rfl tw_1216 d_X12_passes_38 ?_
        refine z_iconst (v := 0) C d_X12_passes_41 (by decide) ?_
        refine z_dup2_11 C d_X12_passes_42 rfl rfl ?_
        refine z_lald C rfl (by decide) d_X12_passes_43 ?_
        refine z_iload_n (j := 1) C d_X12_passes_44 rfl ?_
        refine z_i2l C d_X12_passes_45 ?_
        refine z_ladd C d_X12_passes_46 ?_
        refine z_last C rfl (by decide) d_X12_passes_47 ?_
        refine z_aload_n (j := 0) C d_X12_passes_48 rfl ?_
        refine zg_X12_now C rfl tw_1216 d_X12_passes_49 ?_
        refine z_iconst (v := 0) C d_X12_passes_52 (by decide) ?_
        refine z_lald C rfl (by decide) d_X12_passes_53 ?_
        refine z_l2i C d_X12_passes_54 ?_
        exact r_i C hr rfl d_X12_passes_55 hf
      · exact z_sub [] rfl (t_X12_passes_35 C hr  _ hf)
theorem d_X12_trades_0 : decode cX12_trades 0 = .ok (.aload_n 0, 1) := by decide +kernel
theorem d_X12_trades_1 : decode cX12_trades 1 = .ok (.iload_n 1, 1) := by decide +kernel
theorem d_X12_trades_2 : decode cX12_trades 2 = .ok (.aload_n 0, 1) := by decide +kernel
theorem d_X12_trades_3 : decode cX12_trades 3 = .ok (.iload_n 2, 1) := by decide +kernel
theorem d_X12_trades_4 : decode cX12_trades 4 = .ok (.iload_n 3, 1) := by decide +kernel
theorem d_X12_trades_5 : decode cX12_trades 5 = .ok (.invokevirtual 256, 3) := by decide +kernel
theorem d_X12_trades_8 : decode cX12_trades 8 = .ok (.aload_n 0, 1) := by decide +kernel
theorem d_X12_trades_9 : decode cX12_trades 9 = .ok (.getfield 349, 3) := by decide +kernel
theorem d_X12_trades_12 : decode cX12_trades 12 = .ok (.lneg, 1) := by decide +kernel
theorem d_X12_trades_13 : decode cX12_trades 13 = .ok (.invokevirtual 260, 3) := by decide +kernel
theorem d_X12_trades_16 : decode cX12_trades 16 = .ok (.aload_n 0, 1) := by decide +kernel
theorem d_X12_trades_17 : decode cX12_trades 17 = .ok (.iload_n 1, 1) := by decide +kernel
theorem d_X12_trades_18 : decode cX12_trades 18 = .ok (.aload_n 0, 1) := by decide +kernel
theorem d_X12_trades_19 : decode cX12_trades 19 = .ok (.iload_n 2, 1) := by decide +kernel
theorem d_X12_trades_20 : decode cX12_trades 20 = .ok (.iconst 1, 1) := by decide +kernel
theorem d_X12_trades_21 : decode cX12_trades 21 = .ok (.iload_n 3, 1) := by decide +kernel
theorem d_X12_trades_22 : decode cX12_trades 22 = .ok (.isub, 1) := by decide +kernel
theorem d_X12_trades_23 : decode cX12_trades 23 = .ok (.invokevirtual 256, 3) := by decide +kernel
theorem d_X12_trades_26 : decode cX12_trades 26 = .ok (.aload_n 0, 1) := by decide +kernel
theorem d_X12_trades_27 : decode cX12_trades 27 = .ok (.getfield 352, 3) := by decide +kernel
theorem d_X12_trades_30 : decode cX12_trades 30 = .ok (.invokevirtual 260, 3) := by decide +kernel
theorem d_X12_trades_33 : decode cX12_trades 33 = .ok (.return_, 1) := by decide +kernel
/-- TickPoolsModel.trades(III)V -/
def f_X12_trades (p1 : Int32) (p2 : Int32) (p3 : Int32) (S : Mem) : Option (Unit × Mem) := ((f_X12_thingOf p2 p3 S).bind fun q5 => ((f_X12_morePurse p1 q5.1 (-(gL q5.2 20 30)) q5.2).bind fun q13 => ((f_X12_thingOf p2 (1 - p3) q13.2).bind fun q23 => ((f_X12_morePurse p1 q23.1 (gL q23.2 20 31) q23.2).bind fun q30 => (some ((), q30.2))))))
set_option maxRecDepth 20000 in
theorem c_X12_trades {l : Launch} {Γ : GG} (hI : Inj Γ) {p1 : Int32} {p2 : Int32} {p3 : Int32} {S : Mem} {q : Unit × Mem} (hf : f_X12_trades p1 p2 p3 S = some q) : MM l Γ yX12_trades cX12_trades 4 (none) 1 24 [aR 20, aI p1, aI p2, aI p3] S none q.2 := by
  refine met_of hI "TickPoolsModel" rfl (by decide +kernel) (Nat.le_of_ble_eq_true rfl) (fun X hX C hr => ?_)
  unfold f_X12_trades at hf
  show ZZ X Γ 4 _ S 0 [(0, aR 20), (1, aI p1), (2, aI p2), (3, aI p3)] []
  refine z_aload_n (j := 0) C d_X12_trades_0 rfl ?_
  refine z_iload_n (j := 1) C d_X12_trades_1 rfl ?_
  refine z_aload_n (j := 0) C d_X12_trades_2 rfl ?_
  refine z_iload_n (j := 2) C d_X12_trades_3 rfl ?_
  refine z_iload_n (j := 3) C d_X12_trades_4 rfl ?_
  obtain ⟨q5, hF, hf⟩ := bd hf
  refine z_callV1 (rest := [aI p1, aR 20]) C [aI p2, aI p3] rfl (by decide) rfl rfl k_X12_thingOf tw_1517 ⟨by decide, by decide⟩ (Nat.le_of_ble_eq_true rfl) d_X12_trades_5 (c_X12_thingOf C.inj hF) rfl ?_
  refine z_aload_n (j := 0) C d_X12_trades_8 rfl ?_
  refine zg_X12_came C rfl tw_1241 d_X12_trades_9 ?_
  refine z_lneg C d_X12_trades_12 ?_
  obtain ⟨q13, hF, hf⟩ := bd hf
  refine z_callV0 (rest := []) C [aI p1, aI q5.1, aJ (-(gL q5.2 20 30))] rfl (by decide) rfl rfl k_X12_morePurse tw_1546 ⟨by decide, by decide⟩ (Nat.le_of_ble_eq_true rfl) d_X12_trades_13 (c_X12_morePurse C.inj hF) rfl ?_
  refine z_aload_n (j := 0) C d_X12_trades_16 rfl ?_
  refine z_iload_n (j := 1) C d_X12_trades_17 rfl ?_
  refine z_aload_n (j := 0) C d_X12_trades_18 rfl ?_
  refine z_iload_n (j := 2) C d_X12_trades_19 rfl ?_
  refine z_iconst (v := 1) C d_X12_trades_20 (by decide) ?_
  refine z_iload_n (j := 3) C d_X12_trades_21 rfl ?_
  refine z_isub C d_X12_trades_22 ?_
  obtain ⟨q23, hF, hf⟩ := bd hf
  refine z_callV1 (rest := [aI p1, aR 20]) C [aI p2, aI (1 - p3)] rfl (by decide) rfl rfl k_X12_thingOf tw_1517 ⟨by decide, by decide⟩ (Nat.le_of_ble_eq_true rfl) d_X12_trades_23 (c_X12_thingOf C.inj hF) rfl ?_
  refine z_aload_n (j := 0) C d_X12_trades_26 rfl ?_
  refine zg_X12_gone C rfl tw_1242 d_X12_trades_27 ?_
  obtain ⟨q30, hF, hf⟩ := bd hf
  refine z_callV0 (rest := []) C [aI p1, aI q23.1, aJ (gL q23.2 20 31)] rfl (by decide) rfl rfl k_X12_morePurse tw_1546 ⟨by decide, by decide⟩ (Nat.le_of_ble_eq_true rfl) d_X12_trades_30 (c_X12_morePurse C.inj hF) rfl ?_
  exact r_v C hr d_X12_trades_33 hf
theorem d_X12_in_0 : decode cX12_in 0 = .ok (.aload_n 0, 1) := by decide +kernel
theorem d_X12_in_1 : decode cX12_in 1 = .ok (.iload_n 1, 1) := by decide +kernel
theorem d_X12_in_2 : decode cX12_in 2 = .ok (.invokevirtual 281, 3) := by decide +kernel
theorem d_X12_in_5 : decode cX12_in 5 = .ok (.ifCond .eq 52, 3) := by decide +kernel
theorem d_X12_in_8 : decode cX12_in 8 = .ok (.aload_n 0, 1) := by decide +kernel
theorem d_X12_in_9 : decode cX12_in 9 = .ok (.iload_n 2, 1) := by decide +kernel
theorem d_X12_in_10 : decode cX12_in 10 = .ok (.invokevirtual 284, 3) := by decide +kernel
theorem d_X12_in_13 : decode cX12_in 13 = .ok (.ifCond .eq 44, 3) := by decide +kernel
theorem d_X12_in_16 : decode cX12_in 16 = .ok (.iload_n 3, 1) := by decide +kernel
theorem d_X12_in_17 : decode cX12_in 17 = .ok (.invokestatic 388, 3) := by decide +kernel
theorem d_X12_in_20 : decode cX12_in 20 = .ok (.ifCond .eq 37, 3) := by decide +kernel
theorem d_X12_in_23 : decode cX12_in 23 = .ok (.iload 5, 2) := by decide +kernel
theorem d_X12_in_25 : decode cX12_in 25 = .ok (.i2l, 1) := by decide +kernel
theorem d_X12_in_26 : decode cX12_in 26 = .ok (.lconst 0, 1) := by decide +kernel
theorem d_X12_in_27 : decode cX12_in 27 = .ok (.ldc2_w 279, 3) := by decide +kernel
theorem d_X12_in_30 : decode cX12_in 30 = .ok (.invokestatic 137, 3) := by decide +kernel
theorem d_X12_in_33 : decode cX12_in 33 = .ok (.ifCond .eq 24, 3) := by decide +kernel
theorem d_X12_in_36 : decode cX12_in 36 = .ok (.iload 4, 2) := by decide +kernel
theorem d_X12_in_38 : decode cX12_in 38 = .ok (.i2l, 1) := by decide +kernel
theorem d_X12_in_39 : decode cX12_in 39 = .ok (.lconst 1, 1) := by decide +kernel
theorem d_X12_in_40 : decode cX12_in 40 = .ok (.aload_n 0, 1) := by decide +kernel
theorem d_X12_in_41 : decode cX12_in 41 = .ok (.iload_n 1, 1) := by decide +kernel
theorem d_X12_in_42 : decode cX12_in 42 = .ok (.aload_n 0, 1) := by decide +kernel
theorem d_X12_in_43 : decode cX12_in 43 = .ok (.iload_n 2, 1) := by decide +kernel
theorem d_X12_in_44 : decode cX12_in 44 = .ok (.iload_n 3, 1) := by decide +kernel
theorem d_X12_in_45 : decode cX12_in 45 = .ok (.invokevirtual 256, 3) := by decide +kernel
theorem d_X12_in_48 : decode cX12_in 48 = .ok (.invokevirtual 300, 3) := by decide +kernel
theorem d_X12_in_51 : decode cX12_in 51 = .ok (.invokestatic 137, 3) := by decide +kernel
theorem d_X12_in_54 : decode cX12_in 54 = .ok (.ifCond .ne 5, 3) := by decide +kernel
theorem d_X12_in_57 : decode cX12_in 57 = .ok (.iconst (-1), 1) := by decide +kernel
theorem d_X12_in_58 : decode cX12_in 58 = .ok (.ireturn, 1) := by decide +kernel
theorem d_X12_in_59 : decode cX12_in 59 = .ok (.aload_n 0, 1) := by decide +kernel
theorem d_X12_in_60 : decode cX12_in 60 = .ok (.iload_n 2, 1) := by decide +kernel
theorem d_X12_in_61 : decode cX12_in 61 = .ok (.invokevirtual 391, 3) := by decide +kernel
theorem d_X12_in_64 : decode cX12_in 64 = .ok (.aload_n 0, 1) := by decide +kernel
theorem d_X12_in_65 : decode cX12_in 65 = .ok (.iload_n 2, 1) := by decide +kernel
theorem d_X12_in_66 : decode cX12_in 66 = .ok (.iload_n 3, 1) := by decide +kernel
theorem d_X12_in_67 : decode cX12_in 67 = .ok (.iload 4, 2) := by decide +kernel
theorem d_X12_in_69 : decode cX12_in 69 = .ok (.i2l, 1) := by decide +kernel
theorem d_X12_in_70 : decode cX12_in 70 = .ok (.iload 5, 2) := by decide +kernel
theorem d_X12_in_72 : decode cX12_in 72 = .ok (.iconst 0, 1) := by decide +kernel
theorem d_X12_in_73 : decode cX12_in 73 = .ok (.invokevirtual 394, 3) := by decide +kernel
theorem d_X12_in_76 : decode cX12_in 76 = .ok (.aload_n 0, 1) := by decide +kernel
theorem d_X12_in_77 : decode cX12_in 77 = .ok (.iload_n 1, 1) := by decide +kernel
theorem d_X12_in_78 : decode cX12_in 78 = .ok (.iload_n 2, 1) := by decide +kernel
theorem d_X12_in_79 : decode cX12_in 79 = .ok (.iload_n 3, 1) := by decide +kernel
theorem d_X12_in_80 : decode cX12_in 80 = .ok (.invokevirtual 398, 3) := by decide +kernel
theorem d_X12_in_83 : decode cX12_in 83 = .ok (.aload_n 0, 1) := by decide +kernel
theorem d_X12_in_84 : decode cX12_in 84 = .ok (.getfield 352, 3) := by decide +kernel
theorem d_X12_in_87 : decode cX12_in 87 = .ok (.l2i, 1) := by decide +kernel
theorem d_X12_in_88 : decode cX12_in 88 = .ok (.ireturn, 1) := by decide +kernel
def f_X12_in_57 (S : Mem) : Option (Int32 × Mem) := (some ((-1), S))
set_option maxRecDepth 20000 in
theorem t_X12_in_57 {X : MC} {Γ : GG} (C : CX X Γ cX12_in 6 "TickPoolsModel" 7 206) (hr : X.2.2.2.2.2.2.2.2.1.sig.returnType = some .int) {q : Int32 × Mem} (S : Mem) (hf : f_X12_in_57 S = some q) : ZZ X Γ 6 (QQ X Γ (some (aI q.1)) q.2) S 57 [] [] := by
  unfold f_X12_in_57 at hf
  refine z_iconst (v := (-1)) C d_X12_in_57 (by decide) ?_
  exact r_i C hr rfl d_X12_in_58 hf
/-- TickPoolsModel.in(IIIII)I -/
def f_X12_in (p1 : Int32) (p2 : Int32) (p3 : Int32) (p4 : Int32) (p5 : Int32) (S : Mem) : Option (Int32 × Mem) := ((f_X12_isPerson p1 S).bind fun q2 => (if q2.1 = 0 then (f_X12_in_57  q2.2) else ((f_X12_isPool p2 q2.2).bind fun q10 => (if q10.1 = 0 then (f_X12_in_57  q10.2) else ((f_X12_isSide p3 q10.2).bind fun q17 => (if q17.1 = 0 then (f_X12_in_57  q17.2) else ((f_X12_isIn (p5.toInt64) 0 40 q17.2).bind fun q30 => (if q30.1 = 0 then (f_X12_in_57  q30.2) else ((f_X12_thingOf p2 p3 q30.2).bind fun q45 => ((f_X12_inPurse p1 q45.1 q45.2).bind fun q48 => ((f_X12_isIn (p4.toInt64) 1 q48.1 q48.2).bind fun q51 => (if q51.1 = 0 then (f_X12_in_57  q51.2) else ((f_X12_marksNow p2 q51.2).bind fun q61 => ((f_X12_swaps p2 p3 (p4.toInt64) p5 0 q61.2).bind fun q73 => ((f_X12_trades p1 p2 p3 q73.2).bind fun q80 => (some ((((gL q80.2 20 31) : Int64).toInt32), q80.2)))))))))))))))))
set_option maxRecDepth 20000 in
theorem c_X12_in {l : Launch} {Γ : GG} (hI : Inj Γ) {p1 : Int32} {p2 : Int32} {p3 : Int32} {p4 : Int32} {p5 : Int32} {S : Mem} {q : Int32 × Mem} (hf : f_X12_in p1 p2 p3 p4 p5 S = some q) : MM l Γ yX12_in cX12_in 6 (some .int) 7 206 [aR 20, aI p1, aI p2, aI p3, aI p4, aI p5] S (some (aI q.1)) q.2 := by
  refine met_of hI "TickPoolsModel" rfl (by decide +kernel) (Nat.le_of_ble_eq_true rfl) (fun X hX C hr => ?_)
  unfold f_X12_in at hf
  show ZZ X Γ 6 _ S 0 [(0, aR 20), (1, aI p1), (2, aI p2), (3, aI p3), (4, aI p4), (5, aI p5)] []
  refine z_aload_n (j := 0) C d_X12_in_0 rfl ?_
  refine z_iload_n (j := 1) C d_X12_in_1 rfl ?_
  obtain ⟨q2, hF, hf⟩ := bd hf
  refine z_callV1 (rest := []) C [aI p1] rfl (by decide) rfl rfl k_X12_isPerson tw_1467 ⟨by decide, by decide⟩ (Nat.le_of_ble_eq_true rfl) d_X12_in_2 (c_X12_isPerson C.inj hF) rfl ?_
  refine z_if_eq (tgt := 57) C d_X12_in_5 (by decide) hf (fun c5 hf => ?_) (fun c5 hf => ?_)
  · exact z_sub [] rfl (t_X12_in_57 C hr  _ hf)
  · refine z_aload_n (j := 0) C d_X12_in_8 rfl ?_
    refine z_iload_n (j := 2) C d_X12_in_9 rfl ?_
    obtain ⟨q10, hF, hf⟩ := bd hf
    refine z_callV1 (rest := []) C [aI p2] rfl (by decide) rfl rfl k_X12_isPool tw_1471 ⟨by decide, by decide⟩ (Nat.le_of_ble_eq_true rfl) d_X12_in_10 (c_X12_isPool C.inj hF) rfl ?_
    refine z_if_eq (tgt := 57) C d_X12_in_13 (by decide) hf (fun c13 hf => ?_) (fun c13 hf => ?_)
    · exact z_sub [] rfl (t_X12_in_57 C hr  _ hf)
    · refine z_iload_n (j := 3) C d_X12_in_16 rfl ?_
      obtain ⟨q17, hF, hf⟩ := bd hf
      refine z_callS1 (rest := []) C [aI p3] k_X12_isSide tw_1600 ⟨by decide, by decide⟩ (Nat.le_of_ble_eq_true rfl) d_X12_in_17 (c_X12_isSide C.inj hF) rfl ?_
      refine z_if_eq (tgt := 57) C d_X12_in_20 (by decide) hf (fun c20 hf => ?_) (fun c20 hf => ?_)
      · exact z_sub [] rfl (t_X12_in_57 C hr  _ hf)
      · refine z_iload (j := 5) C d_X12_in_23 rfl ?_
        refine z_i2l C d_X12_in_25 ?_
        refine z_lconst (v := 0) C d_X12_in_26 (by decide) ?_
        refine z_ldc2 (v := 40) C tw_1479 d_X12_in_27 ?_
        obtain ⟨q30, hF, hf⟩ := bd hf
        refine z_callS1 (rest := []) C [aJ (p5.toInt64), aJ 0, aJ 40] k_X12_isIn tw_1385 ⟨by decide, by decide⟩ (Nat.le_of_ble_eq_true rfl) d_X12_in_30 (c_X12_isIn C.inj hF) rfl ?_
        refine z_if_eq (tgt := 57) C d_X12_in_33 (by decide) hf (fun c33 hf => ?_) (fun c33 hf => ?_)
        · exact z_sub [] rfl (t_X12_in_57 C hr  _ hf)
        · refine z_iload (j := 4) C d_X12_in_36 rfl ?_
          refine z_i2l C d_X12_in_38 ?_
          refine z_lconst (v := 1) C d_X12_in_39 (by decide) ?_
          refine z_aload_n (j := 0) C d_X12_in_40 rfl ?_
          refine z_iload_n (j := 1) C d_X12_in_41 rfl ?_
          refine z_aload_n (j := 0) C d_X12_in_42 rfl ?_
          refine z_iload_n (j := 2) C d_X12_in_43 rfl ?_
          refine z_iload_n (j := 3) C d_X12_in_44 rfl ?_
          obtain ⟨q45, hF, hf⟩ := bd hf
          refine z_callV1 (rest := [aI p1, aR 20, aJ 1, aJ (p4.toInt64)]) C [aI p2, aI p3] rfl (by decide) rfl rfl k_X12_thingOf tw_1517 ⟨by decide, by decide⟩ (Nat.le_of_ble_eq_true rfl) d_X12_in_45 (c_X12_thingOf C.inj hF) rfl ?_
          obtain ⟨q48, hF, hf⟩ := bd hf
          refine z_callV1 (rest := [aJ 1, aJ (p4.toInt64)]) C [aI p1, aI q45.1] rfl (by decide) rfl rfl k_X12_inPurse tw_1521 ⟨by decide, by decide⟩ (Nat.le_of_ble_eq_true rfl) d_X12_in_48 (c_X12_inPurse C.inj hF) rfl ?_
          obtain ⟨q51, hF, hf⟩ := bd hf
          refine z_callS1 (rest := []) C [aJ (p4.toInt64), aJ 1, aJ q48.1] k_X12_isIn tw_1385 ⟨by decide, by decide⟩ (Nat.le_of_ble_eq_true rfl) d_X12_in_51 (c_X12_isIn C.inj hF) rfl ?_
          refine z_if_ne (tgt := 59) C d_X12_in_54 (by decide) hf (fun c54 hf => ?_) (fun c54 hf => ?_)
          · refine z_aload_n (j := 0) C d_X12_in_59 rfl ?_
            refine z_iload_n (j := 2) C d_X12_in_60 rfl ?_
            obtain ⟨q61, hF, hf⟩ := bd hf
            refine z_callV0 (rest := []) C [aI p2] rfl (by decide) rfl rfl k_X12_marksNow tw_1603 ⟨by decide, by decide⟩ (Nat.le_of_ble_eq_true rfl) d_X12_in_61 (c_X12_marksNow C.inj hF) rfl ?_
            refine z_aload_n (j := 0) C d_X12_in_64 rfl ?_
            refine z_iload_n (j := 2) C d_X12_in_65 rfl ?_
            refine z_iload_n (j := 3) C d_X12_in_66 rfl ?_
            refine z_iload (j := 4) C d_X12_in_67 rfl ?_
            refine z_i2l C d_X12_in_69 ?_
            refine z_iload (j := 5) C d_X12_in_70 rfl ?_
            refine z_iconst (v := 0) C d_X12_in_72 (by decide) ?_
            obtain ⟨q73, hF, hf⟩ := bd hf
            refine z_callV0 (rest := []) C [aI p2, aI p3, aJ (p4.toInt64), aI p5, aI 0] rfl (by decide) rfl rfl k_X12_swaps tw_1608 ⟨by decide, by decide⟩ (Nat.le_of_ble_eq_true rfl) d_X12_in_73 (c_X12_swaps C.inj hF) rfl ?_
            refine z_aload_n (j := 0) C d_X12_in_76 rfl ?_
            refine z_iload_n (j := 1) C d_X12_in_77 rfl ?_
            refine z_iload_n (j := 2) C d_X12_in_78 rfl ?_
            refine z_iload_n (j := 3) C d_X12_in_79 rfl ?_
            obtain ⟨q80, hF, hf⟩ := bd hf
            refine z_callV0 (rest := []) C [aI p1, aI p2, aI p3] rfl (by decide) rfl rfl k_X12_trades tw_1662 ⟨by decide, by decide⟩ (Nat.le_of_ble_eq_true rfl) d_X12_in_80 (c_X12_trades C.inj hF) rfl ?_
            refine z_aload_n (j := 0) C d_X12_in_83 rfl ?_
            refine zg_X12_gone C rfl tw_1242 d_X12_in_84 ?_
            refine z_l2i C d_X12_in_87 ?_
            exact r_i C hr rfl d_X12_in_88 hf
          · exact z_sub [] rfl (t_X12_in_57 C hr  _ hf)
theorem d_X12_out_0 : decode cX12_out 0 = .ok (.aload_n 0, 1) := by decide +kernel
theorem d_X12_out_1 : decode cX12_out 1 = .ok (.iload_n 1, 1) := by decide +kernel
theorem d_X12_out_2 : decode cX12_out 2 = .ok (.invokevirtual 281, 3) := by decide +kernel
theorem d_X12_out_5 : decode cX12_out 5 = .ok (.ifCond .eq 31, 3) := by decide +kernel
theorem d_X12_out_8 : decode cX12_out 8 = .ok (.aload_n 0, 1) := by decide +kernel
theorem d_X12_out_9 : decode cX12_out 9 = .ok (.iload_n 2, 1) := by decide +kernel
theorem d_X12_out_10 : decode cX12_out 10 = .ok (.invokevirtual 284, 3) := by decide +kernel
theorem d_X12_out_13 : decode cX12_out 13 = .ok (.ifCond .eq 23, 3) := by decide +kernel
theorem d_X12_out_16 : decode cX12_out 16 = .ok (.iload_n 3, 1) := by decide +kernel
theorem d_X12_out_17 : decode cX12_out 17 = .ok (.invokestatic 388, 3) := by decide +kernel
theorem d_X12_out_20 : decode cX12_out 20 = .ok (.ifCond .eq 16, 3) := by decide +kernel
theorem d_X12_out_23 : decode cX12_out 23 = .ok (.iload 4, 2) := by decide +kernel
theorem d_X12_out_25 : decode cX12_out 25 = .ok (.i2l, 1) := by decide +kernel
theorem d_X12_out_26 : decode cX12_out 26 = .ok (.lconst 1, 1) := by decide +kernel
theorem d_X12_out_27 : decode cX12_out 27 = .ok (.ldc2_w 386, 3) := by decide +kernel
theorem d_X12_out_30 : decode cX12_out 30 = .ok (.invokestatic 137, 3) := by decide +kernel
theorem d_X12_out_33 : decode cX12_out 33 = .ok (.ifCond .ne 5, 3) := by decide +kernel
theorem d_X12_out_36 : decode cX12_out 36 = .ok (.iconst (-1), 1) := by decide +kernel
theorem d_X12_out_37 : decode cX12_out 37 = .ok (.ireturn, 1) := by decide +kernel
theorem d_X12_out_38 : decode cX12_out 38 = .ok (.aload_n 0, 1) := by decide +kernel
theorem d_X12_out_39 : decode cX12_out 39 = .ok (.iload_n 1, 1) := by decide +kernel
theorem d_X12_out_40 : decode cX12_out 40 = .ok (.aload_n 0, 1) := by decide +kernel
theorem d_X12_out_41 : decode cX12_out 41 = .ok (.iload_n 2, 1) := by decide +kernel
theorem d_X12_out_42 : decode cX12_out 42 = .ok (.iload_n 3, 1) := by decide +kernel
theorem d_X12_out_43 : decode cX12_out 43 = .ok (.invokevirtual 256, 3) := by decide +kernel
theorem d_X12_out_46 : decode cX12_out 46 = .ok (.invokevirtual 300, 3) := by decide +kernel
theorem d_X12_out_49 : decode cX12_out 49 = .ok (.lstore 5, 2) := by decide +kernel
theorem d_X12_out_51 : decode cX12_out 51 = .ok (.aload_n 0, 1) := by decide +kernel
theorem d_X12_out_52 : decode cX12_out 52 = .ok (.iconst 0, 1) := by decide +kernel
theorem d_X12_out_53 : decode cX12_out 53 = .ok (.invokevirtual 401, 3) := by decide +kernel
theorem d_X12_out_56 : decode cX12_out 56 = .ok (.aload_n 0, 1) := by decide +kernel
theorem d_X12_out_57 : decode cX12_out 57 = .ok (.iload_n 2, 1) := by decide +kernel
theorem d_X12_out_58 : decode cX12_out 58 = .ok (.invokevirtual 391, 3) := by decide +kernel
theorem d_X12_out_61 : decode cX12_out 61 = .ok (.aload_n 0, 1) := by decide +kernel
theorem d_X12_out_62 : decode cX12_out 62 = .ok (.iload_n 2, 1) := by decide +kernel
theorem d_X12_out_63 : decode cX12_out 63 = .ok (.iload_n 3, 1) := by decide +kernel
theorem d_X12_out_64 : decode cX12_out 64 = .ok (.iload 4, 2) := by decide +kernel
theorem d_X12_out_66 : decode cX12_out 66 = .ok (.i2l, 1) := by decide +kernel
theorem d_X12_out_67 : decode cX12_out 67 = .ok (.iload_n 3, 1) := by decide +kernel
theorem d_X12_out_68 : decode cX12_out 68 = .ok (.invokestatic 404, 3) := by decide +kernel
theorem d_X12_out_71 : decode cX12_out 71 = .ok (.iconst 1, 1) := by decide +kernel
theorem d_X12_out_72 : decode cX12_out 72 = .ok (.invokevirtual 394, 3) := by decide +kernel
theorem d_X12_out_75 : decode cX12_out 75 = .ok (.aload_n 0, 1) := by decide +kernel
theorem d_X12_out_76 : decode cX12_out 76 = .ok (.getfield 326, 3) := by decide +kernel
theorem d_X12_out_79 : decode cX12_out 79 = .ok (.lconst 0, 1) := by decide +kernel
theorem d_X12_out_80 : decode cX12_out 80 = .ok (.lcmp, 1) := by decide +kernel
theorem d_X12_out_81 : decode cX12_out 81 = .ok (.ifCond .gt 13, 3) := by decide +kernel
theorem d_X12_out_84 : decode cX12_out 84 = .ok (.aload_n 0, 1) := by decide +kernel
theorem d_X12_out_85 : decode cX12_out 85 = .ok (.getfield 349, 3) := by decide +kernel
theorem d_X12_out_88 : decode cX12_out 88 = .ok (.lload 5, 2) := by decide +kernel
theorem d_X12_out_90 : decode cX12_out 90 = .ok (.lcmp, 1) := by decide +kernel
theorem d_X12_out_91 : decode cX12_out 91 = .ok (.ifCond .le 25, 3) := by decide +kernel
theorem d_X12_out_94 : decode cX12_out 94 = .ok (.aload_n 0, 1) := by decide +kernel
theorem d_X12_out_95 : decode cX12_out 95 = .ok (.iconst 0, 1) := by decide +kernel
theorem d_X12_out_96 : decode cX12_out 96 = .ok (.invokevirtual 407, 3) := by decide +kernel
theorem d_X12_out_99 : decode cX12_out 99 = .ok (.aload_n 0, 1) := by decide +kernel
theorem d_X12_out_100 : decode cX12_out 100 = .ok (.getfield 326, 3) := by decide +kernel
theorem d_X12_out_103 : decode cX12_out 103 = .ok (.lconst 0, 1) := by decide +kernel
theorem d_X12_out_104 : decode cX12_out 104 = .ok (.lcmp, 1) := by decide +kernel
theorem d_X12_out_105 : decode cX12_out 105 = .ok (.ifCond .le 8, 3) := by decide +kernel
theorem d_X12_out_108 : decode cX12_out 108 = .ok (.bipush (-2), 2) := by decide +kernel
theorem d_X12_out_110 : decode cX12_out 110 = .ok (.goto 5, 3) := by decide +kernel
theorem d_X12_out_113 : decode cX12_out 113 = .ok (.bipush (-3), 2) := by decide +kernel
theorem d_X12_out_115 : decode cX12_out 115 = .ok (.ireturn, 1) := by decide +kernel
theorem d_X12_out_116 : decode cX12_out 116 = .ok (.aload_n 0, 1) := by decide +kernel
theorem d_X12_out_117 : decode cX12_out 117 = .ok (.iload_n 1, 1) := by decide +kernel
theorem d_X12_out_118 : decode cX12_out 118 = .ok (.iload_n 2, 1) := by decide +kernel
theorem d_X12_out_119 : decode cX12_out 119 = .ok (.iload_n 3, 1) := by decide +kernel
theorem d_X12_out_120 : decode cX12_out 120 = .ok (.invokevirtual 398, 3) := by decide +kernel
theorem d_X12_out_123 : decode cX12_out 123 = .ok (.aload_n 0, 1) := by decide +kernel
theorem d_X12_out_124 : decode cX12_out 124 = .ok (.getfield 349, 3) := by decide +kernel
theorem d_X12_out_127 : decode cX12_out 127 = .ok (.l2i, 1) := by decide +kernel
theorem d_X12_out_128 : decode cX12_out 128 = .ok (.ireturn, 1) := by decide +kernel
def f_X12_out_36 (S : Mem) : Option (Int32 × Mem) := (some ((-1), S))
set_option maxRecDepth 20000 in
theorem t_X12_out_36 {X : MC} {Γ : GG} (C : CX X Γ cX12_out 7 "TickPoolsModel" 7 206) (hr : X.2.2.2.2.2.2.2.2.1.sig.returnType = some .int) {q : Int32 × Mem} (S : Mem) (hf : f_X12_out_36 S = some q) : ZZ X Γ 7 (QQ X Γ (some (aI q.1)) q.2) S 36 [] [] := by
  unfold f_X12_out_36 at hf
  refine z_iconst (v := (-1)) C d_X12_out_36 (by decide) ?_
  exact r_i C hr rfl d_X12_out_37 hf
def f_X12_out_115 (s0 : Int32) (S : Mem) : Option (Int32 × Mem) := (some (s0, S))
set_option maxRecDepth 20000 in
theorem t_X12_out_115 {X : MC} {Γ : GG} (C : CX X Γ cX12_out 7 "TickPoolsModel" 7 206) (hr : X.2.2.2.2.2.2.2.2.1.sig.returnType = some .int) {q : Int32 × Mem} (s0 : Int32) (S : Mem) (hf : f_X12_out_115 s0 S = some q) : ZZ X Γ 7 (QQ X Γ (some (aI q.1)) q.2) S 115 [] [aI s0] := by
  unfold f_X12_out_115 at hf
  exact r_i C hr rfl d_X12_out_115 hf
def f_X12_out_94 (S : Mem) : Option (Int32 × Mem) := ((f_X12_laysBack 0 S).bind fun q96 => (if (gL q96.2 20 29) ≤ 0 then (f_X12_out_115  (-3) q96.2) else (f_X12_out_115  (-2) q96.2)))
set_option maxRecDepth 20000 in
theorem t_X12_out_94 {X : MC} {Γ : GG} (C : CX X Γ cX12_out 7 "TickPoolsModel" 7 206) (hr : X.2.2.2.2.2.2.2.2.1.sig.returnType = some .int) {q : Int32 × Mem} (S : Mem) (hf : f_X12_out_94 S = some q) : ZZ X Γ 7 (QQ X Γ (some (aI q.1)) q.2) S 94 [(0, aR 20)] [] := by
  unfold f_X12_out_94 at hf
  refine z_aload_n (j := 0) C d_X12_out_94 rfl ?_
  refine z_iconst (v := 0) C d_X12_out_95 (by decide) ?_
  obtain ⟨q96, hF, hf⟩ := bd hf
  refine z_callV0 (rest := []) C [aI 0] rfl (by decide) rfl rfl k_X12_laysBack tw_1677 ⟨by decide, by decide⟩ (Nat.le_of_ble_eq_true rfl) d_X12_out_96 (c_X12_laysBack C.inj hF) rfl ?_
  refine z_aload_n (j := 0) C d_X12_out_99 rfl ?_
  refine zg_X12_left C rfl tw_1240 d_X12_out_100 ?_
  refine z_lconst (v := 0) C d_X12_out_103 (by decide) ?_
  refine z_lle (tgt := 113) C d_X12_out_104 d_X12_out_105 (by decide) hf (fun c104 hf => ?_) (fun c104 hf => ?_)
  · refine z_bipush (v := (-3)) C d_X12_out_113 (by decide) ?_
    exact z_sub [] rfl (t_X12_out_115 C hr  _ _ hf)
  · refine z_bipush (v := (-2)) C d_X12_out_108 (by decide) ?_
    refine z_goto (tgt := 115) C d_X12_out_110 (by decide) ?_
    exact z_sub [] rfl (t_X12_out_115 C hr  _ _ hf)
/-- TickPoolsModel.out(IIII)I -/
def f_X12_out (p1 : Int32) (p2 : Int32) (p3 : Int32) (p4 : Int32) (S : Mem) : Option (Int32 × Mem) := ((f_X12_isPerson p1 S).bind fun q2 => (if q2.1 = 0 then (f_X12_out_36  q2.2) else ((f_X12_isPool p2 q2.2).bind fun q10 => (if q10.1 = 0 then (f_X12_out_36  q10.2) else ((f_X12_isSide p3 q10.2).bind fun q17 => (if q17.1 = 0 then (f_X12_out_36  q17.2) else ((f_X12_isIn (p4.toInt64) 1 9999999 q17.2).bind fun q30 => (if q30.1 = 0 then (f_X12_out_36  q30.2) else ((f_X12_thingOf p2 p3 q30.2).bind fun q43 => ((f_X12_inPurse p1 q43.1 q43.2).bind fun q46 => ((f_X12_keeps 0 q46.2).bind fun q53 => ((f_X12_marksNow p2 q53.2).bind fun q58 => ((f_X12_endOf p3 q58.2).bind fun q68 => ((f_X12_swaps p2 p3 (p4.toInt64) q68.1 1 q68.2).bind fun q72 => (if 0 < (gL q72.2 20 29) then (f_X12_out_94  q72.2) else (if (gL q72.2 20 30) ≤ q46.1 then ((f_X12_trades p1 p2 p3 q72.2).bind fun q120 => (some ((((gL q120.2 20 30) : Int64).toInt32), q120.2))) else (f_X12_out_94  q72.2)))))))))))))))))
set_option maxRecDepth 20000 in
theorem c_X12_out {l : Launch} {Γ : GG} (hI : Inj Γ) {p1 : Int32} {p2 : Int32} {p3 : Int32} {p4 : Int32} {S : Mem} {q : Int32 × Mem} (hf : f_X12_out p1 p2 p3 p4 S = some q) : MM l Γ yX12_out cX12_out 7 (some .int) 7 206 [aR 20, aI p1, aI p2, aI p3, aI p4] S (some (aI q.1)) q.2 := by
  refine met_of hI "TickPoolsModel" rfl (by decide +kernel) (Nat.le_of_ble_eq_true rfl) (fun X hX C hr => ?_)
  unfold f_X12_out at hf
  show ZZ X Γ 7 _ S 0 [(0, aR 20), (1, aI p1), (2, aI p2), (3, aI p3), (4, aI p4)] []
  refine z_aload_n (j := 0) C d_X12_out_0 rfl ?_
  refine z_iload_n (j := 1) C d_X12_out_1 rfl ?_
  obtain ⟨q2, hF, hf⟩ := bd hf
  refine z_callV1 (rest := []) C [aI p1] rfl (by decide) rfl rfl k_X12_isPerson tw_1467 ⟨by decide, by decide⟩ (Nat.le_of_ble_eq_true rfl) d_X12_out_2 (c_X12_isPerson C.inj hF) rfl ?_
  refine z_if_eq (tgt := 36) C d_X12_out_5 (by decide) hf (fun c5 hf => ?_) (fun c5 hf => ?_)
  · exact z_sub [] rfl (t_X12_out_36 C hr  _ hf)
  · refine z_aload_n (j := 0) C d_X12_out_8 rfl ?_
    refine z_iload_n (j := 2) C d_X12_out_9 rfl ?_
    obtain ⟨q10, hF, hf⟩ := bd hf
    refine z_callV1 (rest := []) C [aI p2] rfl (by decide) rfl rfl k_X12_isPool tw_1471 ⟨by decide, by decide⟩ (Nat.le_of_ble_eq_true rfl) d_X12_out_10 (c_X12_isPool C.inj hF) rfl ?_
    refine z_if_eq (tgt := 36) C d_X12_out_13 (by decide) hf (fun c13 hf => ?_) (fun c13 hf => ?_)
    · exact z_sub [] rfl (t_X12_out_36 C hr  _ hf)
    · refine z_iload_n (j := 3) C d_X12_out_16 rfl ?_
      obtain ⟨q17, hF, hf⟩ := bd hf
      refine z_callS1 (rest := []) C [aI p3] k_X12_isSide tw_1600 ⟨by decide, by decide⟩ (Nat.le_of_ble_eq_true rfl) d_X12_out_17 (c_X12_isSide C.inj hF) rfl ?_
      refine z_if_eq (tgt := 36) C d_X12_out_20 (by decide) hf (fun c20 hf => ?_) (fun c20 hf => ?_)
      · exact z_sub [] rfl (t_X12_out_36 C hr  _ hf)
      · refine z_iload (j := 4) C d_X12_out_23 rfl ?_
        refine z_i2l C d_X12_out_25 ?_
        refine z_lconst (v := 1) C d_X12_out_26 (by decide) ?_
        refine z_ldc2 (v := 9999999) C tw_1595 d_X12_out_27 ?_
        obtain ⟨q30, hF, hf⟩ := bd hf
        refine z_callS1 (rest := []) C [aJ (p4.toInt64), aJ 1, aJ 9999999] k_X12_isIn tw_1385 ⟨by decide, by decide⟩ (Nat.le_of_ble_eq_true rfl) d_X12_out_30 (c_X12_isIn C.inj hF) rfl ?_
        refine z_if_ne (tgt := 38) C d_X12_out_33 (by decide) hf (fun c33 hf => ?_) (fun c33 hf => ?_)
        · refine z_aload_n (j := 0) C d_X12_out_38 rfl ?_
          refine z_iload_n (j := 1) C d_X12_out_39 rfl ?_
          refine z_aload_n (j := 0) C d_X12_out_40 rfl ?_
          refine z_iload_n (j := 2) C d_X12_out_41 rfl ?_
          refine z_iload_n (j := 3) C d_X12_out_42 rfl ?_
          obtain ⟨q43, hF, hf⟩ := bd hf
          refine z_callV1 (rest := [aI p1, aR 20]) C [aI p2, aI p3] rfl (by decide) rfl rfl k_X12_thingOf tw_1517 ⟨by decide, by decide⟩ (Nat.le_of_ble_eq_true rfl) d_X12_out_43 (c_X12_thingOf C.inj hF) rfl ?_
          obtain ⟨q46, hF, hf⟩ := bd hf
          refine z_callV1 (rest := []) C [aI p1, aI q43.1] rfl (by decide) rfl rfl k_X12_inPurse tw_1521 ⟨by decide, by decide⟩ (Nat.le_of_ble_eq_true rfl) d_X12_out_46 (c_X12_inPurse C.inj hF) rfl ?_
          refine z_lstore (lv' := [(5, aJ q46.1), (0, aR 20), (1, aI p1), (2, aI p2), (3, aI p3), (4, aI p4)]) C d_X12_out_49 (by decide) rfl ?_
          refine z_aload_n (j := 1) C d_X12_out_51 rfl ?_
          refine z_iconst (v := 0) C d_X12_out_52 (by decide) ?_
          obtain ⟨q53, hF, hf⟩ := bd hf
          refine z_callV0 (rest := []) C [aI 0] rfl (by decide) rfl rfl k_X12_keeps tw_1670 ⟨by decide, by decide⟩ (Nat.le_of_ble_eq_true rfl) d_X12_out_53 (c_X12_keeps C.inj hF) rfl ?_
          refine z_aload_n (j := 1) C d_X12_out_56 rfl ?_
          refine z_iload_n (j := 3) C d_X12_out_57 rfl ?_
          obtain ⟨q58, hF, hf⟩ := bd hf
          refine z_callV0 (rest := []) C [aI p2] rfl (by decide) rfl rfl k_X12_marksNow tw_1603 ⟨by decide, by decide⟩ (Nat.le_of_ble_eq_true rfl) d_X12_out_58 (c_X12_marksNow C.inj hF) rfl ?_
          refine z_aload_n (j := 1) C d_X12_out_61 rfl ?_
          refine z_iload_n (j := 3) C d_X12_out_62 rfl ?_
          refine z_iload_n (j := 4) C d_X12_out_63 rfl ?_
          refine z_iload (j := 5) C d_X12_out_64 rfl ?_
          refine z_i2l C d_X12_out_66 ?_
          refine z_iload_n (j := 4) C d_X12_out_67 rfl ?_
          obtain ⟨q68, hF, hf⟩ := bd hf
          refine z_callS1 (rest := [aJ (p4.toInt64), aI p3, aI p2, aR 20]) C [aI p3] k_X12_endOf tw_1674 ⟨by decide, by decide⟩ (Nat.le_of_ble_eq_true rfl) d_X12_out_68 (c_X12_endOf C.inj hF) rfl ?_
          refine z_iconst (v := 1) C d_X12_out_71 (by decide) ?_
          obtain ⟨q72, hF, hf⟩ := bd hf
          refine z_callV0 (rest := []) C [aI p2, aI p3, aJ (p4.toInt64), aI q68.1, aI 1] rfl (by decide) rfl rfl k_X12_swaps tw_1608 ⟨by decide, by decide⟩ (Nat.le_of_ble_eq_true rfl) d_X12_out_72 (c_X12_swaps C.inj hF) rfl ?_
          refine z_aload_n (j := 1) C d_X12_out_75 rfl ?_
          refine zg_X12_left C rfl tw_1240 d_X12_out_76 ?_
          refine z_lconst (v := 0) C d_X12_out_79 (by decide) ?_
          refine z_lgt (tgt := 94) C d_X12_out_80 d_X12_out_81 (by decide) hf (fun c80 hf => ?_) (fun c80 hf => ?_)
          · exact z_sub [1] rfl (t_X12_out_94 C hr  _ hf)
          · refine z_aload_n (j := 1) C d_X12_out_84 rfl ?_
            refine zg_X12_came C rfl tw_1241 d_X12_out_85 ?_
            refine z_lload (j := 0) C d_X12_out_88 rfl ?_
            refine z_lle (tgt := 116) C d_X12_out_90 d_X12_out_91 (by decide) hf (fun c90 hf => ?_) (fun c90 hf => ?_)
            · refine z_aload_n (j := 1) C d_X12_out_116 rfl ?_
              refine z_iload_n (j := 2) C d_X12_out_117 rfl ?_
              refine z_iload_n (j := 3) C d_X12_out_118 rfl ?_
              refine z_iload_n (j := 4) C d_X12_out_119 rfl ?_
              obtain ⟨q120, hF, hf⟩ := bd hf
              refine z_callV0 (rest := []) C [aI p1, aI p2, aI p3] rfl (by decide) rfl rfl k_X12_trades tw_1662 ⟨by decide, by decide⟩ (Nat.le_of_ble_eq_true rfl) d_X12_out_120 (c_X12_trades C.inj hF) rfl ?_
              refine z_aload_n (j := 1) C d_X12_out_123 rfl ?_
              refine zg_X12_came C rfl tw_1241 d_X12_out_124 ?_
              refine z_l2i C d_X12_out_127 ?_
              exact r_i C hr rfl d_X12_out_128 hf
            · exact z_sub [1] rfl (t_X12_out_94 C hr  _ hf)
        · exact z_sub [] rfl (t_X12_out_36 C hr  _ hf)
theorem d_X12_kindBy_0 : decode cX12_kindBy 0 = .ok (.iconst 0, 1) := by decide +kernel
theorem d_X12_kindBy_1 : decode cX12_kindBy 1 = .ok (.istore_n 3, 1) := by decide +kernel
theorem d_X12_kindBy_2 : decode cX12_kindBy 2 = .ok (.iload_n 3, 1) := by decide +kernel
theorem d_X12_kindBy_3 : decode cX12_kindBy 3 = .ok (.bipush 7, 2) := by decide +kernel
theorem d_X12_kindBy_5 : decode cX12_kindBy 5 = .ok (.if_icmp .ge 25, 3) := by decide +kernel
theorem d_X12_kindBy_8 : decode cX12_kindBy 8 = .ok (.aload_n 2, 1) := by decide +kernel
theorem d_X12_kindBy_9 : decode cX12_kindBy 9 = .ok (.iload_n 3, 1) := by decide +kernel
theorem d_X12_kindBy_10 : decode cX12_kindBy 10 = .ok (.laload, 1) := by decide +kernel
theorem d_X12_kindBy_11 : decode cX12_kindBy 11 = .ok (.lload_n 0, 1) := by decide +kernel
theorem d_X12_kindBy_12 : decode cX12_kindBy 12 = .ok (.lcmp, 1) := by decide +kernel
theorem d_X12_kindBy_13 : decode cX12_kindBy 13 = .ok (.ifCond .ne 11, 3) := by decide +kernel
theorem d_X12_kindBy_16 : decode cX12_kindBy 16 = .ok (.lload_n 0, 1) := by decide +kernel
theorem d_X12_kindBy_17 : decode cX12_kindBy 17 = .ok (.lconst 0, 1) := by decide +kernel
theorem d_X12_kindBy_18 : decode cX12_kindBy 18 = .ok (.lcmp, 1) := by decide +kernel
theorem d_X12_kindBy_19 : decode cX12_kindBy 19 = .ok (.ifCond .le 5, 3) := by decide +kernel
theorem d_X12_kindBy_22 : decode cX12_kindBy 22 = .ok (.iload_n 3, 1) := by decide +kernel
theorem d_X12_kindBy_23 : decode cX12_kindBy 23 = .ok (.ireturn, 1) := by decide +kernel
theorem d_X12_kindBy_24 : decode cX12_kindBy 24 = .ok (.iinc 3 1, 3) := by decide +kernel
theorem d_X12_kindBy_27 : decode cX12_kindBy 27 = .ok (.goto (-25), 3) := by decide +kernel
theorem d_X12_kindBy_30 : decode cX12_kindBy 30 = .ok (.iconst (-1), 1) := by decide +kernel
theorem d_X12_kindBy_31 : decode cX12_kindBy 31 = .ok (.ireturn, 1) := by decide +kernel
def f_X12_kindBy_24 (k2 : Int64 → Nat → Int32 → Mem → Option (Int32 × Mem)) (v0 : Int64) (v2 : Nat) (v3 : Int32) (S : Mem) : Option (Int32 × Mem) := (k2 v0 v2 (v3 + 1) S)
set_option maxRecDepth 20000 in
theorem t_X12_kindBy_24 {X : MC} {Γ : GG} (C : CX X Γ cX12_kindBy 4 "TickPoolsModel" 0 0) (hr : X.2.2.2.2.2.2.2.2.1.sig.returnType = some .int) {k2 : Int64 → Nat → Int32 → Mem → Option (Int32 × Mem)} {q : Int32 × Mem} (hk2 : ∀ (v0 : Int64) (v2 : Nat) (v3 : Int32) (S : Mem), k2 v0 v2 v3 S = some q → ZZ X Γ 4 (QQ X Γ (some (aI q.1)) q.2) S 2 [(0, aJ v0), (2, aR v2), (3, aI v3)] []) (v0 : Int64) (v2 : Nat) (v3 : Int32) (S : Mem) (hf : f_X12_kindBy_24 k2 v0 v2 v3 S = some q) : ZZ X Γ 4 (QQ X Γ (some (aI q.1)) q.2) S 24 [(0, aJ v0), (2, aR v2), (3, aI v3)] [] := by
  unfold f_X12_kindBy_24 at hf
  refine z_iinc (j := 2) (v := (v3 + 1)) (lv' := [(3, aI (v3 + 1)), (0, aJ v0), (2, aR v2)]) C d_X12_kindBy_24 rfl rfl (by decide) rfl ?_
  refine z_goto (tgt := 2) C d_X12_kindBy_27 (by decide) ?_
  exact z_sub [1, 2, 0] rfl (hk2 _ _ _ _ hf)
def f_X12_kindBy_2B (k2 : Int64 → Nat → Int32 → Mem → Option (Int32 × Mem)) (v0 : Int64) (v2 : Nat) (v3 : Int32) (S : Mem) : Option (Int32 × Mem) := (if 7 ≤ v3 then (some ((-1), S)) else (if kd v2 = (14, 7) then (if inb v3 7 = true then (if (gL S v2 ((v3 : Int32).toNatClampNeg)) = v0 then (if v0 ≤ 0 then (f_X12_kindBy_24 k2 v0 v2 v3 S) else (some (v3, S))) else (f_X12_kindBy_24 k2 v0 v2 v3 S)) else none) else none))
set_option maxRecDepth 20000 in
theorem t_X12_kindBy_2B {X : MC} {Γ : GG} (C : CX X Γ cX12_kindBy 4 "TickPoolsModel" 0 0) (hr : X.2.2.2.2.2.2.2.2.1.sig.returnType = some .int) {k2 : Int64 → Nat → Int32 → Mem → Option (Int32 × Mem)} {q : Int32 × Mem} (hk2 : ∀ (v0 : Int64) (v2 : Nat) (v3 : Int32) (S : Mem), k2 v0 v2 v3 S = some q → ZZ X Γ 4 (QQ X Γ (some (aI q.1)) q.2) S 2 [(0, aJ v0), (2, aR v2), (3, aI v3)] []) (v0 : Int64) (v2 : Nat) (v3 : Int32) (S : Mem) (hf : f_X12_kindBy_2B k2 v0 v2 v3 S = some q) : ZZ X Γ 4 (QQ X Γ (some (aI q.1)) q.2) S 2 [(0, aJ v0), (2, aR v2), (3, aI v3)] [] := by
  unfold f_X12_kindBy_2B at hf
  refine z_iload_n (j := 2) C d_X12_kindBy_2 rfl ?_
  refine z_bipush (v := 7) C d_X12_kindBy_3 (by decide) ?_
  refine z_icmp_ge (tgt := 30) C d_X12_kindBy_5 (by decide) hf (fun c5 hf => ?_) (fun c5 hf => ?_)
  · refine z_iconst (v := (-1)) C d_X12_kindBy_30 (by decide) ?_
    exact r_i C hr rfl d_X12_kindBy_31 hf
  · refine z_aload_n (j := 1) C d_X12_kindBy_8 rfl ?_
    refine z_iload_n (j := 2) C d_X12_kindBy_9 rfl ?_
    obtain ⟨hg10_0, hf⟩ := gd hf
    obtain ⟨hi10_1, hf⟩ := gd hf
    refine z_lald C hg10_0 hi10_1 d_X12_kindBy_10 ?_
    refine z_lload_n (j := 0) C d_X12_kindBy_11 rfl ?_
    refine z_lne (tgt := 24) C d_X12_kindBy_12 d_X12_kindBy_13 (by decide) hf (fun c12 hf => ?_) (fun c12 hf => ?_)
    · exact z_sub [0, 1, 2] rfl (t_X12_kindBy_24 C hr hk2 _ _ _ _ hf)
    · refine z_lload_n (j := 0) C d_X12_kindBy_16 rfl ?_
      refine z_lconst (v := 0) C d_X12_kindBy_17 (by decide) ?_
      refine z_lle (tgt := 24) C d_X12_kindBy_18 d_X12_kindBy_19 (by decide) hf (fun c18 hf => ?_) (fun c18 hf => ?_)
      · exact z_sub [0, 1, 2] rfl (t_X12_kindBy_24 C hr hk2 _ _ _ _ hf)
      · refine z_iload_n (j := 2) C d_X12_kindBy_22 rfl ?_
        exact r_i C hr rfl d_X12_kindBy_23 hf
def f_X12_kindBy_2 : Nat → Int64 → Nat → Int32 → Mem → Option (Int32 × Mem)
  | 0 => fun _ _ _ _ => none
  | n + 1 => f_X12_kindBy_2B (f_X12_kindBy_2 n)
theorem t_X12_kindBy_2 {X : MC} {Γ : GG} (C : CX X Γ cX12_kindBy 4 "TickPoolsModel" 0 0) (hr : X.2.2.2.2.2.2.2.2.1.sig.returnType = some .int) {q : Int32 × Mem} : ∀ (n : Nat) (v0 : Int64) (v2 : Nat) (v3 : Int32) (S : Mem) (hf : f_X12_kindBy_2 n v0 v2 v3 S = some q), ZZ X Γ 4 (QQ X Γ (some (aI q.1)) q.2) S 2 [(0, aJ v0), (2, aR v2), (3, aI v3)] []
  | 0, _, _, _, _, hf => nomatch (show (none : Option (Int32 × Mem)) = some q from hf)
  | n + 1, v0, v2, v3, S, hf => t_X12_kindBy_2B C hr (t_X12_kindBy_2 C hr n) v0 v2 v3 S hf
/-- TickPoolsModel.kindBy(J[J)I -/
def f_X12_kindBy (p0 : Int64) (p2 : Nat) (S : Mem) : Option (Int32 × Mem) := (f_X12_kindBy_2  100000 p0 p2 0 S)
set_option maxRecDepth 20000 in
theorem c_X12_kindBy {l : Launch} {Γ : GG} (hI : Inj Γ) {p0 : Int64} {p2 : Nat} {S : Mem} {q : Int32 × Mem} (hf : f_X12_kindBy p0 p2 S = some q) : MM l Γ yX12_kindBy cX12_kindBy 4 (some .int) 0 0 [aJ p0, aR p2] S (some (aI q.1)) q.2 := by
  refine met_of hI "TickPoolsModel" rfl (by decide +kernel) (Nat.le_of_ble_eq_true rfl) (fun X hX C hr => ?_)
  unfold f_X12_kindBy at hf
  show ZZ X Γ 4 _ S 0 [(0, aJ p0), (2, aR p2)] []
  refine z_iconst (v := 0) C d_X12_kindBy_0 (by decide) ?_
  refine z_istore_n (lv' := [(3, aI 0), (0, aJ p0), (2, aR p2)]) C d_X12_kindBy_1 (by decide) rfl ?_
  exact z_sub [1, 2, 0] rfl (t_X12_kindBy_2 C hr  100000 _ _ _ _ hf)
theorem d_X12_readsNumbers_0 : decode cX12_readsNumbers 0 = .ok (.iconst 0, 1) := by decide +kernel
theorem d_X12_readsNumbers_1 : decode cX12_readsNumbers 1 = .ok (.istore 6, 2) := by decide +kernel
theorem d_X12_readsNumbers_3 : decode cX12_readsNumbers 3 = .ok (.iload 6, 2) := by decide +kernel
theorem d_X12_readsNumbers_5 : decode cX12_readsNumbers 5 = .ok (.iload_n 2, 1) := by decide +kernel
theorem d_X12_readsNumbers_6 : decode cX12_readsNumbers 6 = .ok (.if_icmp .ge 56, 3) := by decide +kernel
theorem d_X12_readsNumbers_9 : decode cX12_readsNumbers 9 = .ok (.aload_n 0, 1) := by decide +kernel
theorem d_X12_readsNumbers_10 : decode cX12_readsNumbers 10 = .ok (.iconst 0, 1) := by decide +kernel
theorem d_X12_readsNumbers_11 : decode cX12_readsNumbers 11 = .ok (.iload 6, 2) := by decide +kernel
theorem d_X12_readsNumbers_13 : decode cX12_readsNumbers 13 = .ok (.ifCond .ne 7, 3) := by decide +kernel
theorem d_X12_readsNumbers_16 : decode cX12_readsNumbers 16 = .ok (.iload_n 3, 1) := by decide +kernel
theorem d_X12_readsNumbers_17 : decode cX12_readsNumbers 17 = .ok (.goto 16, 3) := by decide +kernel
theorem d_X12_readsNumbers_20 : decode cX12_readsNumbers 20 = .ok (.iload 6, 2) := by decide +kernel
theorem d_X12_readsNumbers_22 : decode cX12_readsNumbers 22 = .ok (.iconst 1, 1) := by decide +kernel
theorem d_X12_readsNumbers_23 : decode cX12_readsNumbers 23 = .ok (.if_icmp .ne 8, 3) := by decide +kernel
theorem d_X12_readsNumbers_26 : decode cX12_readsNumbers 26 = .ok (.iload 4, 2) := by decide +kernel
theorem d_X12_readsNumbers_28 : decode cX12_readsNumbers 28 = .ok (.goto 5, 3) := by decide +kernel
theorem d_X12_readsNumbers_31 : decode cX12_readsNumbers 31 = .ok (.iload 5, 2) := by decide +kernel
theorem d_X12_readsNumbers_33 : decode cX12_readsNumbers 33 = .ok (.invokevirtual 178, 3) := by decide +kernel
theorem d_X12_readsNumbers_36 : decode cX12_readsNumbers 36 = .ok (.ifCond .ne 5, 3) := by decide +kernel
theorem d_X12_readsNumbers_39 : decode cX12_readsNumbers 39 = .ok (.iconst 0, 1) := by decide +kernel
theorem d_X12_readsNumbers_40 : decode cX12_readsNumbers 40 = .ok (.ireturn, 1) := by decide +kernel
theorem d_X12_readsNumbers_41 : decode cX12_readsNumbers 41 = .ok (.aload_n 0, 1) := by decide +kernel
theorem d_X12_readsNumbers_42 : decode cX12_readsNumbers 42 = .ok (.getfield 80, 3) := by decide +kernel
theorem d_X12_readsNumbers_45 : decode cX12_readsNumbers 45 = .ok (.iconst 4, 1) := by decide +kernel
theorem d_X12_readsNumbers_46 : decode cX12_readsNumbers 46 = .ok (.iload_n 1, 1) := by decide +kernel
theorem d_X12_readsNumbers_47 : decode cX12_readsNumbers 47 = .ok (.imul, 1) := by decide +kernel
theorem d_X12_readsNumbers_48 : decode cX12_readsNumbers 48 = .ok (.iload 6, 2) := by decide +kernel
theorem d_X12_readsNumbers_50 : decode cX12_readsNumbers 50 = .ok (.iadd, 1) := by decide +kernel
theorem d_X12_readsNumbers_51 : decode cX12_readsNumbers 51 = .ok (.aload_n 0, 1) := by decide +kernel
theorem d_X12_readsNumbers_52 : decode cX12_readsNumbers 52 = .ok (.getfield 169, 3) := by decide +kernel
theorem d_X12_readsNumbers_55 : decode cX12_readsNumbers 55 = .ok (.iastore, 1) := by decide +kernel
theorem d_X12_readsNumbers_56 : decode cX12_readsNumbers 56 = .ok (.iinc 6 1, 3) := by decide +kernel
theorem d_X12_readsNumbers_59 : decode cX12_readsNumbers 59 = .ok (.goto (-56), 3) := by decide +kernel
theorem d_X12_readsNumbers_62 : decode cX12_readsNumbers 62 = .ok (.iconst 1, 1) := by decide +kernel
theorem d_X12_readsNumbers_63 : decode cX12_readsNumbers 63 = .ok (.ireturn, 1) := by decide +kernel
def f_X12_readsNumbers_33 (k3 : Int32 → Int32 → Int32 → Int32 → Int32 → Int32 → Mem → Option (Int32 × Mem)) (v1 : Int32) (v2 : Int32) (v3 : Int32) (v4 : Int32) (v5 : Int32) (v6 : Int32) (s0 : Int32) (s1 : Int32) (S : Mem) : Option (Int32 × Mem) := ((f_X12_reads s1 s0 S).bind fun q33 => (if q33.1 = 0 then (some (0, q33.2)) else (if inb ((4 * v1) + v6) 160 = true then (k3 v1 v2 v3 v4 v5 (v6 + 1) (sI q33.2 30 ((((4 * v1) + v6) : Int32).toNatClampNeg) (gI q33.2 20 11))) else none)))
set_option maxRecDepth 20000 in
theorem t_X12_readsNumbers_33 {X : MC} {Γ : GG} (C : CX X Γ cX12_readsNumbers 7 "TickPoolsModel" 3 64) (hr : X.2.2.2.2.2.2.2.2.1.sig.returnType = some .boolean) {k3 : Int32 → Int32 → Int32 → Int32 → Int32 → Int32 → Mem → Option (Int32 × Mem)} {q : Int32 × Mem} (hk3 : ∀ (v1 : Int32) (v2 : Int32) (v3 : Int32) (v4 : Int32) (v5 : Int32) (v6 : Int32) (S : Mem), k3 v1 v2 v3 v4 v5 v6 S = some q → ZZ X Γ 7 (QQ X Γ (some (aI q.1)) q.2) S 3 [(0, aR 20), (1, aI v1), (2, aI v2), (3, aI v3), (4, aI v4), (5, aI v5), (6, aI v6)] []) (v1 : Int32) (v2 : Int32) (v3 : Int32) (v4 : Int32) (v5 : Int32) (v6 : Int32) (s0 : Int32) (s1 : Int32) (S : Mem) (hf : f_X12_readsNumbers_33 k3 v1 v2 v3 v4 v5 v6 s0 s1 S = some q) : ZZ X Γ 7 (QQ X Γ (some (aI q.1)) q.2) S 33 [(0, aR 20), (1, aI v1), (2, aI v2), (3, aI v3), (4, aI v4), (5, aI v5), (6, aI v6)] [aI s0, aI s1, aR 20] := by
  unfold f_X12_readsNumbers_33 at hf
  obtain ⟨q33, hF, hf⟩ := bd hf
  refine z_callV1 (rest := []) C [aI s1, aI s0] rfl (by decide) rfl rfl k_X12_reads tw_1427 ⟨by decide, by decide⟩ (Nat.le_of_ble_eq_true rfl) d_X12_readsNumbers_33 (c_X12_reads C.inj hF) rfl ?_
  refine z_if_ne (tgt := 41) C d_X12_readsNumbers_36 (by decide) hf (fun c36 hf => ?_) (fun c36 hf => ?_)
  · refine z_aload_n (j := 0) C d_X12_readsNumbers_41 rfl ?_
    refine zg_X12_numbers C rfl tw_1248 d_X12_readsNumbers_42 ?_
    refine z_iconst (v := 4) C d_X12_readsNumbers_45 (by decide) ?_
    refine z_iload_n (j := 1) C d_X12_readsNumbers_46 rfl ?_
    refine z_imul C d_X12_readsNumbers_47 ?_
    refine z_iload (j := 6) C d_X12_readsNumbers_48 rfl ?_
    refine z_iadd C d_X12_readsNumbers_50 ?_
    refine z_aload_n (j := 0) C d_X12_readsNumbers_51 rfl ?_
    refine zg_X12_number C rfl tw_1222 d_X12_readsNumbers_52 ?_
    obtain ⟨hi55_0, hf⟩ := gd hf
    refine z_iast C rfl hi55_0 d_X12_readsNumbers_55 ?_
    refine z_iinc (j := 6) (v := (v6 + 1)) (lv' := [(6, aI (v6 + 1)), (0, aR 20), (1, aI v1), (2, aI v2), (3, aI v3), (4, aI v4), (5, aI v5)]) C d_X12_readsNumbers_56 rfl rfl (by decide) rfl ?_
    refine z_goto (tgt := 3) C d_X12_readsNumbers_59 (by decide) ?_
    exact z_sub [1, 2, 3, 4, 5, 6, 0] rfl (hk3 _ _ _ _ _ _ _ hf)
  · refine z_iconst (v := 0) C d_X12_readsNumbers_39 (by decide) ?_
    exact r_i C hr (by decide) d_X12_readsNumbers_40 hf
def f_X12_readsNumbers_3B (k3 : Int32 → Int32 → Int32 → Int32 → Int32 → Int32 → Mem → Option (Int32 × Mem)) (v1 : Int32) (v2 : Int32) (v3 : Int32) (v4 : Int32) (v5 : Int32) (v6 : Int32) (S : Mem) : Option (Int32 × Mem) := (if v2 ≤ v6 then (some (1, S)) else (if v6 = 0 then (f_X12_readsNumbers_33 k3 v1 v2 v3 v4 v5 v6 v3 0 S) else (if v6 = 1 then (f_X12_readsNumbers_33 k3 v1 v2 v3 v4 v5 v6 v4 0 S) else (f_X12_readsNumbers_33 k3 v1 v2 v3 v4 v5 v6 v5 0 S))))
set_option maxRecDepth 20000 in
theorem t_X12_readsNumbers_3B {X : MC} {Γ : GG} (C : CX X Γ cX12_readsNumbers 7 "TickPoolsModel" 3 64) (hr : X.2.2.2.2.2.2.2.2.1.sig.returnType = some .boolean) {k3 : Int32 → Int32 → Int32 → Int32 → Int32 → Int32 → Mem → Option (Int32 × Mem)} {q : Int32 × Mem} (hk3 : ∀ (v1 : Int32) (v2 : Int32) (v3 : Int32) (v4 : Int32) (v5 : Int32) (v6 : Int32) (S : Mem), k3 v1 v2 v3 v4 v5 v6 S = some q → ZZ X Γ 7 (QQ X Γ (some (aI q.1)) q.2) S 3 [(0, aR 20), (1, aI v1), (2, aI v2), (3, aI v3), (4, aI v4), (5, aI v5), (6, aI v6)] []) (v1 : Int32) (v2 : Int32) (v3 : Int32) (v4 : Int32) (v5 : Int32) (v6 : Int32) (S : Mem) (hf : f_X12_readsNumbers_3B k3 v1 v2 v3 v4 v5 v6 S = some q) : ZZ X Γ 7 (QQ X Γ (some (aI q.1)) q.2) S 3 [(0, aR 20), (1, aI v1), (2, aI v2), (3, aI v3), (4, aI v4), (5, aI v5), (6, aI v6)] [] := by
  unfold f_X12_readsNumbers_3B at hf
  refine z_iload (j := 6) C d_X12_readsNumbers_3 rfl ?_
  refine z_iload_n (j := 2) C d_X12_readsNumbers_5 rfl ?_
  refine z_icmp_ge (tgt := 62) C d_X12_readsNumbers_6 (by decide) hf (fun c6 hf => ?_) (fun c6 hf => ?_)
  · refine z_iconst (v := 1) C d_X12_readsNumbers_62 (by decide) ?_
    exact r_i C hr (by decide) d_X12_readsNumbers_63 hf
  · refine z_aload_n (j := 0) C d_X12_readsNumbers_9 rfl ?_
    refine z_iconst (v := 0) C d_X12_readsNumbers_10 (by decide) ?_
    refine z_iload (j := 6) C d_X12_readsNumbers_11 rfl ?_
    refine z_if_ne (tgt := 20) C d_X12_readsNumbers_13 (by decide) hf (fun c13 hf => ?_) (fun c13 hf => ?_)
    · refine z_iload (j := 6) C d_X12_readsNumbers_20 rfl ?_
      refine z_iconst (v := 1) C d_X12_readsNumbers_22 (by decide) ?_
      refine z_icmp_ne (tgt := 31) C d_X12_readsNumbers_23 (by decide) hf (fun c23 hf => ?_) (fun c23 hf => ?_)
      · refine z_iload (j := 5) C d_X12_readsNumbers_31 rfl ?_
        exact z_sub [0, 1, 2, 3, 4, 5, 6] rfl (t_X12_readsNumbers_33 C hr hk3 _ _ _ _ _ _ _ _ _ hf)
      · refine z_iload (j := 4) C d_X12_readsNumbers_26 rfl ?_
        refine z_goto (tgt := 33) C d_X12_readsNumbers_28 (by decide) ?_
        exact z_sub [0, 1, 2, 3, 4, 5, 6] rfl (t_X12_readsNumbers_33 C hr hk3 _ _ _ _ _ _ _ _ _ hf)
    · refine z_iload_n (j := 3) C d_X12_readsNumbers_16 rfl ?_
      refine z_goto (tgt := 33) C d_X12_readsNumbers_17 (by decide) ?_
      exact z_sub [0, 1, 2, 3, 4, 5, 6] rfl (t_X12_readsNumbers_33 C hr hk3 _ _ _ _ _ _ _ _ _ hf)
def f_X12_readsNumbers_3 : Nat → Int32 → Int32 → Int32 → Int32 → Int32 → Int32 → Mem → Option (Int32 × Mem)
  | 0 => fun _ _ _ _ _ _ _ => none
  | n + 1 => f_X12_readsNumbers_3B (f_X12_readsNumbers_3 n)
theorem t_X12_readsNumbers_3 {X : MC} {Γ : GG} (C : CX X Γ cX12_readsNumbers 7 "TickPoolsModel" 3 64) (hr : X.2.2.2.2.2.2.2.2.1.sig.returnType = some .boolean) {q : Int32 × Mem} : ∀ (n : Nat) (v1 : Int32) (v2 : Int32) (v3 : Int32) (v4 : Int32) (v5 : Int32) (v6 : Int32) (S : Mem) (hf : f_X12_readsNumbers_3 n v1 v2 v3 v4 v5 v6 S = some q), ZZ X Γ 7 (QQ X Γ (some (aI q.1)) q.2) S 3 [(0, aR 20), (1, aI v1), (2, aI v2), (3, aI v3), (4, aI v4), (5, aI v5), (6, aI v6)] []
  | 0, _, _, _, _, _, _, _, hf => nomatch (show (none : Option (Int32 × Mem)) = some q from hf)
  | n + 1, v1, v2, v3, v4, v5, v6, S, hf => t_X12_readsNumbers_3B C hr (t_X12_readsNumbers_3 C hr n) v1 v2 v3 v4 v5 v6 S hf
/-- TickPoolsModel.readsNumbers(IIIII)Z -/
def f_X12_readsNumbers (p1 : Int32) (p2 : Int32) (p3 : Int32) (p4 : Int32) (p5 : Int32) (S : Mem) : Option (Int32 × Mem) := (f_X12_readsNumbers_3  100000 p1 p2 p3 p4 p5 0 S)
set_option maxRecDepth 20000 in
theorem c_X12_readsNumbers {l : Launch} {Γ : GG} (hI : Inj Γ) {p1 : Int32} {p2 : Int32} {p3 : Int32} {p4 : Int32} {p5 : Int32} {S : Mem} {q : Int32 × Mem} (hf : f_X12_readsNumbers p1 p2 p3 p4 p5 S = some q) : MM l Γ yX12_readsNumbers cX12_readsNumbers 7 (some .boolean) 3 64 [aR 20, aI p1, aI p2, aI p3, aI p4, aI p5] S (some (aI q.1)) q.2 := by
  refine met_of hI "TickPoolsModel" rfl (by decide +kernel) (Nat.le_of_ble_eq_true rfl) (fun X hX C hr => ?_)
  unfold f_X12_readsNumbers at hf
  show ZZ X Γ 7 _ S 0 [(0, aR 20), (1, aI p1), (2, aI p2), (3, aI p3), (4, aI p4), (5, aI p5)] []
  refine z_iconst (v := 0) C d_X12_readsNumbers_0 (by decide) ?_
  refine z_istore (lv' := [(6, aI 0), (0, aR 20), (1, aI p1), (2, aI p2), (3, aI p3), (4, aI p4), (5, aI p5)]) C d_X12_readsNumbers_1 (by decide) rfl ?_
  exact z_sub [1, 2, 3, 4, 5, 6, 0] rfl (t_X12_readsNumbers_3 C hr  100000 _ _ _ _ _ _ _ hf)
theorem d_X12_readsMuch_0 : decode cX12_readsMuch 0 = .ok (.aload_n 0, 1) := by decide +kernel
theorem d_X12_readsMuch_1 : decode cX12_readsMuch 1 = .ok (.getfield 83, 3) := by decide +kernel
theorem d_X12_readsMuch_4 : decode cX12_readsMuch 4 = .ok (.iload_n 1, 1) := by decide +kernel
theorem d_X12_readsMuch_5 : decode cX12_readsMuch 5 = .ok (.iconst 0, 1) := by decide +kernel
theorem d_X12_readsMuch_6 : decode cX12_readsMuch 6 = .ok (.iastore, 1) := by decide +kernel
theorem d_X12_readsMuch_7 : decode cX12_readsMuch 7 = .ok (.aload_n 0, 1) := by decide +kernel
theorem d_X12_readsMuch_8 : decode cX12_readsMuch 8 = .ok (.invokevirtual 151, 3) := by decide +kernel
theorem d_X12_readsMuch_11 : decode cX12_readsMuch 11 = .ok (.invokestatic 162, 3) := by decide +kernel
theorem d_X12_readsMuch_14 : decode cX12_readsMuch 14 = .ok (.ifCond .eq 27, 3) := by decide +kernel
theorem d_X12_readsMuch_17 : decode cX12_readsMuch 17 = .ok (.aload_n 0, 1) := by decide +kernel
theorem d_X12_readsMuch_18 : decode cX12_readsMuch 18 = .ok (.iconst 0, 1) := by decide +kernel
theorem d_X12_readsMuch_19 : decode cX12_readsMuch 19 = .ok (.ldc 187, 2) := by decide +kernel
theorem d_X12_readsMuch_21 : decode cX12_readsMuch 21 = .ok (.invokevirtual 178, 3) := by decide +kernel
theorem d_X12_readsMuch_24 : decode cX12_readsMuch 24 = .ok (.istore_n 2, 1) := by decide +kernel
theorem d_X12_readsMuch_25 : decode cX12_readsMuch 25 = .ok (.aload_n 0, 1) := by decide +kernel
theorem d_X12_readsMuch_26 : decode cX12_readsMuch 26 = .ok (.getfield 80, 3) := by decide +kernel
theorem d_X12_readsMuch_29 : decode cX12_readsMuch 29 = .ok (.iconst 4, 1) := by decide +kernel
theorem d_X12_readsMuch_30 : decode cX12_readsMuch 30 = .ok (.iload_n 1, 1) := by decide +kernel
theorem d_X12_readsMuch_31 : decode cX12_readsMuch 31 = .ok (.imul, 1) := by decide +kernel
theorem d_X12_readsMuch_32 : decode cX12_readsMuch 32 = .ok (.iconst 2, 1) := by decide +kernel
theorem d_X12_readsMuch_33 : decode cX12_readsMuch 33 = .ok (.iadd, 1) := by decide +kernel
theorem d_X12_readsMuch_34 : decode cX12_readsMuch 34 = .ok (.aload_n 0, 1) := by decide +kernel
theorem d_X12_readsMuch_35 : decode cX12_readsMuch 35 = .ok (.getfield 169, 3) := by decide +kernel
theorem d_X12_readsMuch_38 : decode cX12_readsMuch 38 = .ok (.iastore, 1) := by decide +kernel
theorem d_X12_readsMuch_39 : decode cX12_readsMuch 39 = .ok (.iload_n 2, 1) := by decide +kernel
theorem d_X12_readsMuch_40 : decode cX12_readsMuch 40 = .ok (.ireturn, 1) := by decide +kernel
theorem d_X12_readsMuch_41 : decode cX12_readsMuch 41 = .ok (.aload_n 0, 1) := by decide +kernel
theorem d_X12_readsMuch_42 : decode cX12_readsMuch 42 = .ok (.invokevirtual 188, 3) := by decide +kernel
theorem d_X12_readsMuch_45 : decode cX12_readsMuch 45 = .ok (.lstore_n 2, 1) := by decide +kernel
theorem d_X12_readsMuch_46 : decode cX12_readsMuch 46 = .ok (.lload_n 2, 1) := by decide +kernel
theorem d_X12_readsMuch_47 : decode cX12_readsMuch 47 = .ok (.aload_n 0, 1) := by decide +kernel
theorem d_X12_readsMuch_48 : decode cX12_readsMuch 48 = .ok (.getfield 62, 3) := by decide +kernel
theorem d_X12_readsMuch_51 : decode cX12_readsMuch 51 = .ok (.lcmp, 1) := by decide +kernel
theorem d_X12_readsMuch_52 : decode cX12_readsMuch 52 = .ok (.ifCond .eq 22, 3) := by decide +kernel
theorem d_X12_readsMuch_55 : decode cX12_readsMuch 55 = .ok (.lload_n 2, 1) := by decide +kernel
theorem d_X12_readsMuch_56 : decode cX12_readsMuch 56 = .ok (.aload_n 0, 1) := by decide +kernel
theorem d_X12_readsMuch_57 : decode cX12_readsMuch 57 = .ok (.getfield 65, 3) := by decide +kernel
theorem d_X12_readsMuch_60 : decode cX12_readsMuch 60 = .ok (.lcmp, 1) := by decide +kernel
theorem d_X12_readsMuch_61 : decode cX12_readsMuch 61 = .ok (.ifCond .eq 13, 3) := by decide +kernel
theorem d_X12_readsMuch_64 : decode cX12_readsMuch 64 = .ok (.aload_n 0, 1) := by decide +kernel
theorem d_X12_readsMuch_65 : decode cX12_readsMuch 65 = .ok (.iconst 0, 1) := by decide +kernel
theorem d_X12_readsMuch_66 : decode cX12_readsMuch 66 = .ok (.aload_n 0, 1) := by decide +kernel
theorem d_X12_readsMuch_67 : decode cX12_readsMuch 67 = .ok (.getfield 144, 3) := by decide +kernel
theorem d_X12_readsMuch_70 : decode cX12_readsMuch 70 = .ok (.invokevirtual 165, 3) := by decide +kernel
theorem d_X12_readsMuch_73 : decode cX12_readsMuch 73 = .ok (.ireturn, 1) := by decide +kernel
theorem d_X12_readsMuch_74 : decode cX12_readsMuch 74 = .ok (.aload_n 0, 1) := by decide +kernel
theorem d_X12_readsMuch_75 : decode cX12_readsMuch 75 = .ok (.getfield 83, 3) := by decide +kernel
theorem d_X12_readsMuch_78 : decode cX12_readsMuch 78 = .ok (.iload_n 1, 1) := by decide +kernel
theorem d_X12_readsMuch_79 : decode cX12_readsMuch 79 = .ok (.lload_n 2, 1) := by decide +kernel
theorem d_X12_readsMuch_80 : decode cX12_readsMuch 80 = .ok (.aload_n 0, 1) := by decide +kernel
theorem d_X12_readsMuch_81 : decode cX12_readsMuch 81 = .ok (.getfield 62, 3) := by decide +kernel
theorem d_X12_readsMuch_84 : decode cX12_readsMuch 84 = .ok (.lcmp, 1) := by decide +kernel
theorem d_X12_readsMuch_85 : decode cX12_readsMuch 85 = .ok (.ifCond .ne 7, 3) := by decide +kernel
theorem d_X12_readsMuch_88 : decode cX12_readsMuch 88 = .ok (.iconst 1, 1) := by decide +kernel
theorem d_X12_readsMuch_89 : decode cX12_readsMuch 89 = .ok (.goto 4, 3) := by decide +kernel
theorem d_X12_readsMuch_92 : decode cX12_readsMuch 92 = .ok (.iconst 2, 1) := by decide +kernel
theorem d_X12_readsMuch_93 : decode cX12_readsMuch 93 = .ok (.iastore, 1) := by decide +kernel
theorem d_X12_readsMuch_94 : decode cX12_readsMuch 94 = .ok (.aload_n 0, 1) := by decide +kernel
theorem d_X12_readsMuch_95 : decode cX12_readsMuch 95 = .ok (.invokevirtual 175, 3) := by decide +kernel
theorem d_X12_readsMuch_98 : decode cX12_readsMuch 98 = .ok (.iconst 1, 1) := by decide +kernel
theorem d_X12_readsMuch_99 : decode cX12_readsMuch 99 = .ok (.ireturn, 1) := by decide +kernel
def f_X12_readsMuch_93 (s0 : Int32) (s1 : Int32) (S : Mem) : Option (Int32 × Mem) := (if inb s1 40 = true then ((f_X12_passWord (sI S 31 ((s1 : Int32).toNatClampNeg) s0)).bind fun q95 => (some (1, q95.2))) else none)
set_option maxRecDepth 20000 in
theorem t_X12_readsMuch_93 {X : MC} {Γ : GG} (C : CX X Γ cX12_readsMuch 4 "TickPoolsModel" 3 64) (hr : X.2.2.2.2.2.2.2.2.1.sig.returnType = some .boolean) {q : Int32 × Mem} (s0 : Int32) (s1 : Int32) (S : Mem) (hf : f_X12_readsMuch_93 s0 s1 S = some q) : ZZ X Γ 4 (QQ X Γ (some (aI q.1)) q.2) S 93 [(0, aR 20)] [aI s0, aI s1, aR 31] := by
  unfold f_X12_readsMuch_93 at hf
  obtain ⟨hi93_0, hf⟩ := gd hf
  refine z_iast C rfl hi93_0 d_X12_readsMuch_93 ?_
  refine z_aload_n (j := 0) C d_X12_readsMuch_94 rfl ?_
  obtain ⟨q95, hF, hf⟩ := bd hf
  refine z_callV0 (rest := []) C [] rfl (by decide) rfl rfl k_X12_passWord tw_1423 ⟨by decide, by decide⟩ (Nat.le_of_ble_eq_true rfl) d_X12_readsMuch_95 (c_X12_passWord C.inj hF) rfl ?_
  refine z_iconst (v := 1) C d_X12_readsMuch_98 (by decide) ?_
  exact r_i C hr (by decide) d_X12_readsMuch_99 hf
def f_X12_readsMuch_74 (v1 : Int32) (v2 : Int64) (S : Mem) : Option (Int32 × Mem) := (if v2 = (gL S 20 22) then (f_X12_readsMuch_93  1 v1 S) else (f_X12_readsMuch_93  2 v1 S))
set_option maxRecDepth 20000 in
theorem t_X12_readsMuch_74 {X : MC} {Γ : GG} (C : CX X Γ cX12_readsMuch 4 "TickPoolsModel" 3 64) (hr : X.2.2.2.2.2.2.2.2.1.sig.returnType = some .boolean) {q : Int32 × Mem} (v1 : Int32) (v2 : Int64) (S : Mem) (hf : f_X12_readsMuch_74 v1 v2 S = some q) : ZZ X Γ 4 (QQ X Γ (some (aI q.1)) q.2) S 74 [(0, aR 20), (1, aI v1), (2, aJ v2)] [] := by
  unfold f_X12_readsMuch_74 at hf
  refine z_aload_n (j := 0) C d_X12_readsMuch_74 rfl ?_
  refine zg_X12_muchBy C rfl tw_1249 d_X12_readsMuch_75 ?_
  refine z_iload_n (j := 1) C d_X12_readsMuch_78 rfl ?_
  refine z_lload_n (j := 2) C d_X12_readsMuch_79 rfl ?_
  refine z_aload_n (j := 0) C d_X12_readsMuch_80 rfl ?_
  refine zg_X12_allWord C rfl tw_1233 d_X12_readsMuch_81 ?_
  refine z_lne (tgt := 92) C d_X12_readsMuch_84 d_X12_readsMuch_85 (by decide) hf (fun c84 hf => ?_) (fun c84 hf => ?_)
  · refine z_iconst (v := 2) C d_X12_readsMuch_92 (by decide) ?_
    exact z_sub [0] rfl (t_X12_readsMuch_93 C hr  _ _ _ hf)
  · refine z_iconst (v := 1) C d_X12_readsMuch_88 (by decide) ?_
    refine z_goto (tgt := 93) C d_X12_readsMuch_89 (by decide) ?_
    exact z_sub [0] rfl (t_X12_readsMuch_93 C hr  _ _ _ hf)
/-- TickPoolsModel.readsMuch(I)Z -/
def f_X12_readsMuch (p1 : Int32) (S : Mem) : Option (Int32 × Mem) := (if inb p1 40 = true then ((f_X12_next (sI S 31 ((p1 : Int32).toNatClampNeg) 0)).bind fun q8 => ((f_X12_isDigit q8.1 q8.2).bind fun q11 => (if q11.1 = 0 then ((f_X12_wordHere q11.2).bind fun q42 => (if q42.1 = (gL q42.2 20 22) then (f_X12_readsMuch_74  p1 q42.1 q42.2) else (if q42.1 = (gL q42.2 20 23) then (f_X12_readsMuch_74  p1 q42.1 q42.2) else ((f_X12_fails 0 (gI q42.2 20 9) q42.2).bind fun q70 => (if isB q70.1 = true then (some (q70.1, q70.2)) else none))))) else ((f_X12_reads 0 9999999 q11.2).bind fun q21 => (if inb ((4 * p1) + 2) 160 = true then (if isB q21.1 = true then (some (q21.1, (sI q21.2 30 ((((4 * p1) + 2) : Int32).toNatClampNeg) (gI q21.2 20 11)))) else none) else none))))) else none)
set_option maxRecDepth 20000 in
theorem c_X12_readsMuch {l : Launch} {Γ : GG} (hI : Inj Γ) {p1 : Int32} {S : Mem} {q : Int32 × Mem} (hf : f_X12_readsMuch p1 S = some q) : MM l Γ yX12_readsMuch cX12_readsMuch 4 (some .boolean) 3 64 [aR 20, aI p1] S (some (aI q.1)) q.2 := by
  refine met_of hI "TickPoolsModel" rfl (by decide +kernel) (Nat.le_of_ble_eq_true rfl) (fun X hX C hr => ?_)
  unfold f_X12_readsMuch at hf
  show ZZ X Γ 4 _ S 0 [(0, aR 20), (1, aI p1)] []
  refine z_aload_n (j := 0) C d_X12_readsMuch_0 rfl ?_
  refine zg_X12_muchBy C rfl tw_1249 d_X12_readsMuch_1 ?_
  refine z_iload_n (j := 1) C d_X12_readsMuch_4 rfl ?_
  refine z_iconst (v := 0) C d_X12_readsMuch_5 (by decide) ?_
  obtain ⟨hi6_0, hf⟩ := gd hf
  refine z_iast C rfl hi6_0 d_X12_readsMuch_6 ?_
  refine z_aload_n (j := 0) C d_X12_readsMuch_7 rfl ?_
  obtain ⟨q8, hF, hf⟩ := bd hf
  refine z_callV1 (rest := []) C [] rfl (by decide) rfl rfl k_X12_next tw_1404 ⟨by decide, by decide⟩ (Nat.le_of_ble_eq_true rfl) d_X12_readsMuch_8 (c_X12_next C.inj hF) rfl ?_
  obtain ⟨q11, hF, hf⟩ := bd hf
  refine z_callS1 (rest := []) C [aI q8.1] k_X12_isDigit tw_1431 ⟨by decide, by decide⟩ (Nat.le_of_ble_eq_true rfl) d_X12_readsMuch_11 (c_X12_isDigit C.inj hF) rfl ?_
  refine z_if_eq (tgt := 41) C d_X12_readsMuch_14 (by decide) hf (fun c14 hf => ?_) (fun c14 hf => ?_)
  · refine z_aload_n (j := 0) C d_X12_readsMuch_41 rfl ?_
    obtain ⟨q42, hF, hf⟩ := bd hf
    refine z_callV1 (rest := []) C [] rfl (by decide) rfl rfl k_X12_wordHere tw_1400 ⟨by decide, by decide⟩ (Nat.le_of_ble_eq_true rfl) d_X12_readsMuch_42 (c_X12_wordHere C.inj hF) rfl ?_
    refine z_lstore_n (lv' := [(2, aJ q42.1), (0, aR 20), (1, aI p1)]) C d_X12_readsMuch_45 (by decide) rfl ?_
    refine z_lload_n (j := 0) C d_X12_readsMuch_46 rfl ?_
    refine z_aload_n (j := 1) C d_X12_readsMuch_47 rfl ?_
    refine zg_X12_allWord C rfl tw_1233 d_X12_readsMuch_48 ?_
    refine z_leq (tgt := 74) C d_X12_readsMuch_51 d_X12_readsMuch_52 (by decide) hf (fun c51 hf => ?_) (fun c51 hf => ?_)
    · exact z_sub [1, 2, 0] rfl (t_X12_readsMuch_74 C hr  _ _ _ hf)
    · refine z_lload_n (j := 0) C d_X12_readsMuch_55 rfl ?_
      refine z_aload_n (j := 1) C d_X12_readsMuch_56 rfl ?_
      refine zg_X12_gotWord C rfl tw_1234 d_X12_readsMuch_57 ?_
      refine z_leq (tgt := 74) C d_X12_readsMuch_60 d_X12_readsMuch_61 (by decide) hf (fun c60 hf => ?_) (fun c60 hf => ?_)
      · exact z_sub [1, 2, 0] rfl (t_X12_readsMuch_74 C hr  _ _ _ hf)
      · refine z_aload_n (j := 1) C d_X12_readsMuch_64 rfl ?_
        refine z_iconst (v := 0) C d_X12_readsMuch_65 (by decide) ?_
        refine z_aload_n (j := 1) C d_X12_readsMuch_66 rfl ?_
        refine zg_X12_at C rfl tw_1220 d_X12_readsMuch_67 ?_
        obtain ⟨q70, hF, hf⟩ := bd hf
        refine z_callV1 (rest := []) C [aI 0, aI (gI q42.2 20 9)] rfl (by decide) rfl rfl k_X12_fails tw_1415 ⟨by decide, by decide⟩ (Nat.le_of_ble_eq_true rfl) d_X12_readsMuch_70 (c_X12_fails C.inj hF) rfl ?_
        obtain ⟨hb73_1, hf⟩ := gd hf
        exact r_i C hr (isB_nar hb73_1).1 d_X12_readsMuch_73 hf
  · refine z_aload_n (j := 0) C d_X12_readsMuch_17 rfl ?_
    refine z_iconst (v := 0) C d_X12_readsMuch_18 (by decide) ?_
    refine z_ldc (v := 9999999) C tw_1442 d_X12_readsMuch_19 ?_
    obtain ⟨q21, hF, hf⟩ := bd hf
    refine z_callV1 (rest := []) C [aI 0, aI 9999999] rfl (by decide) rfl rfl k_X12_reads tw_1427 ⟨by decide, by decide⟩ (Nat.le_of_ble_eq_true rfl) d_X12_readsMuch_21 (c_X12_reads C.inj hF) rfl ?_
    refine z_istore_n (lv' := [(2, aI q21.1), (0, aR 20), (1, aI p1)]) C d_X12_readsMuch_24 (by decide) rfl ?_
    refine z_aload_n (j := 1) C d_X12_readsMuch_25 rfl ?_
    refine zg_X12_numbers C rfl tw_1248 d_X12_readsMuch_26 ?_
    refine z_iconst (v := 4) C d_X12_readsMuch_29 (by decide) ?_
    refine z_iload_n (j := 2) C d_X12_readsMuch_30 rfl ?_
    refine z_imul C d_X12_readsMuch_31 ?_
    refine z_iconst (v := 2) C d_X12_readsMuch_32 (by decide) ?_
    refine z_iadd C d_X12_readsMuch_33 ?_
    refine z_aload_n (j := 1) C d_X12_readsMuch_34 rfl ?_
    refine zg_X12_number C rfl tw_1222 d_X12_readsMuch_35 ?_
    obtain ⟨hi38_1, hf⟩ := gd hf
    refine z_iast C rfl hi38_1 d_X12_readsMuch_38 ?_
    refine z_iload_n (j := 0) C d_X12_readsMuch_39 rfl ?_
    obtain ⟨hb40_2, hf⟩ := gd hf
    exact r_i C hr (isB_nar hb40_2).1 d_X12_readsMuch_40 hf
theorem d_X12_opens_0 : decode cX12_opens 0 = .ok (.aload_n 0, 1) := by decide +kernel
theorem d_X12_opens_1 : decode cX12_opens 1 = .ok (.invokevirtual 151, 3) := by decide +kernel
theorem d_X12_opens_4 : decode cX12_opens 4 = .ok (.bipush 91, 2) := by decide +kernel
theorem d_X12_opens_6 : decode cX12_opens 6 = .ok (.if_icmp .eq 13, 3) := by decide +kernel
theorem d_X12_opens_9 : decode cX12_opens 9 = .ok (.aload_n 0, 1) := by decide +kernel
theorem d_X12_opens_10 : decode cX12_opens 10 = .ok (.iconst 0, 1) := by decide +kernel
theorem d_X12_opens_11 : decode cX12_opens 11 = .ok (.aload_n 0, 1) := by decide +kernel
theorem d_X12_opens_12 : decode cX12_opens 12 = .ok (.getfield 144, 3) := by decide +kernel
theorem d_X12_opens_15 : decode cX12_opens 15 = .ok (.invokevirtual 165, 3) := by decide +kernel
theorem d_X12_opens_18 : decode cX12_opens 18 = .ok (.ireturn, 1) := by decide +kernel
theorem d_X12_opens_19 : decode cX12_opens 19 = .ok (.aload_n 0, 1) := by decide +kernel
theorem d_X12_opens_20 : decode cX12_opens 20 = .ok (.getfield 410, 3) := by decide +kernel
theorem d_X12_opens_23 : decode cX12_opens 23 = .ok (.iconst 4, 1) := by decide +kernel
theorem d_X12_opens_24 : decode cX12_opens 24 = .ok (.if_icmp .ne 13, 3) := by decide +kernel
theorem d_X12_opens_27 : decode cX12_opens 27 = .ok (.aload_n 0, 1) := by decide +kernel
theorem d_X12_opens_28 : decode cX12_opens 28 = .ok (.iconst 3, 1) := by decide +kernel
theorem d_X12_opens_29 : decode cX12_opens 29 = .ok (.aload_n 0, 1) := by decide +kernel
theorem d_X12_opens_30 : decode cX12_opens 30 = .ok (.getfield 144, 3) := by decide +kernel
theorem d_X12_opens_33 : decode cX12_opens 33 = .ok (.invokevirtual 165, 3) := by decide +kernel
theorem d_X12_opens_36 : decode cX12_opens 36 = .ok (.ireturn, 1) := by decide +kernel
theorem d_X12_opens_37 : decode cX12_opens 37 = .ok (.aload_n 0, 1) := by decide +kernel
theorem d_X12_opens_38 : decode cX12_opens 38 = .ok (.dup, 1) := by decide +kernel
theorem d_X12_opens_39 : decode cX12_opens 39 = .ok (.getfield 144, 3) := by decide +kernel
theorem d_X12_opens_42 : decode cX12_opens 42 = .ok (.iconst 1, 1) := by decide +kernel
theorem d_X12_opens_43 : decode cX12_opens 43 = .ok (.iadd, 1) := by decide +kernel
theorem d_X12_opens_44 : decode cX12_opens 44 = .ok (.putfield 144, 3) := by decide +kernel
theorem d_X12_opens_47 : decode cX12_opens 47 = .ok (.aload_n 0, 1) := by decide +kernel
theorem d_X12_opens_48 : decode cX12_opens 48 = .ok (.getfield 92, 3) := by decide +kernel
theorem d_X12_opens_51 : decode cX12_opens 51 = .ok (.aload_n 0, 1) := by decide +kernel
theorem d_X12_opens_52 : decode cX12_opens 52 = .ok (.getfield 410, 3) := by decide +kernel
theorem d_X12_opens_55 : decode cX12_opens 55 = .ok (.iload_n 1, 1) := by decide +kernel
theorem d_X12_opens_56 : decode cX12_opens 56 = .ok (.iastore, 1) := by decide +kernel
theorem d_X12_opens_57 : decode cX12_opens 57 = .ok (.aload_n 0, 1) := by decide +kernel
theorem d_X12_opens_58 : decode cX12_opens 58 = .ok (.dup, 1) := by decide +kernel
theorem d_X12_opens_59 : decode cX12_opens 59 = .ok (.getfield 410, 3) := by decide +kernel
theorem d_X12_opens_62 : decode cX12_opens 62 = .ok (.iconst 1, 1) := by decide +kernel
theorem d_X12_opens_63 : decode cX12_opens 63 = .ok (.iadd, 1) := by decide +kernel
theorem d_X12_opens_64 : decode cX12_opens 64 = .ok (.putfield 410, 3) := by decide +kernel
theorem d_X12_opens_67 : decode cX12_opens 67 = .ok (.iconst 1, 1) := by decide +kernel
theorem d_X12_opens_68 : decode cX12_opens 68 = .ok (.ireturn, 1) := by decide +kernel
def f_X12_opens_67 (S : Mem) : Option (Int32 × Mem) := (some (1, S))
set_option maxRecDepth 20000 in
theorem t_X12_opens_67 {X : MC} {Γ : GG} (C : CX X Γ cX12_opens 2 "TickPoolsModel" 2 41) (hr : X.2.2.2.2.2.2.2.2.1.sig.returnType = some .boolean) {q : Int32 × Mem} (S : Mem) (hf : f_X12_opens_67 S = some q) : ZZ X Γ 2 (QQ X Γ (some (aI q.1)) q.2) S 67 [] [] := by
  unfold f_X12_opens_67 at hf
  refine z_iconst (v := 1) C d_X12_opens_67 (by decide) ?_
  exact r_i C hr (by decide) d_X12_opens_68 hf
/-- TickPoolsModel.opens(I)Z -/
def f_X12_opens (p1 : Int32) (S : Mem) : Option (Int32 × Mem) := ((f_X12_next S).bind fun q1 => (if q1.1 = 91 then (if (gI q1.2 20 42) = 4 then ((f_X12_fails 3 (gI q1.2 20 9) q1.2).bind fun q33 => (if isB q33.1 = true then (some (q33.1, q33.2)) else none)) else (if inb (gI (sI q1.2 20 9 ((gI q1.2 20 9) + 1)) 20 42) 4 = true then (f_X12_opens_67  (sI (sI (sI q1.2 20 9 ((gI q1.2 20 9) + 1)) 34 (((gI (sI q1.2 20 9 ((gI q1.2 20 9) + 1)) 20 42) : Int32).toNatClampNeg) p1) 20 42 ((gI (sI (sI q1.2 20 9 ((gI q1.2 20 9) + 1)) 34 (((gI (sI q1.2 20 9 ((gI q1.2 20 9) + 1)) 20 42) : Int32).toNatClampNeg) p1) 20 42) + 1))) else none)) else ((f_X12_fails 0 (gI q1.2 20 9) q1.2).bind fun q15 => (if isB q15.1 = true then (some (q15.1, q15.2)) else none))))
set_option maxRecDepth 20000 in
theorem c_X12_opens {l : Launch} {Γ : GG} (hI : Inj Γ) {p1 : Int32} {S : Mem} {q : Int32 × Mem} (hf : f_X12_opens p1 S = some q) : MM l Γ yX12_opens cX12_opens 2 (some .boolean) 2 41 [aR 20, aI p1] S (some (aI q.1)) q.2 := by
  refine met_of hI "TickPoolsModel" rfl (by decide +kernel) (Nat.le_of_ble_eq_true rfl) (fun X hX C hr => ?_)
  unfold f_X12_opens at hf
  show ZZ X Γ 2 _ S 0 [(0, aR 20), (1, aI p1)] []
  refine z_aload_n (j := 0) C d_X12_opens_0 rfl ?_
  obtain ⟨q1, hF, hf⟩ := bd hf
  refine z_callV1 (rest := []) C [] rfl (by decide) rfl rfl k_X12_next tw_1404 ⟨by decide, by decide⟩ (Nat.le_of_ble_eq_true rfl) d_X12_opens_1 (c_X12_next C.inj hF) rfl ?_
  refine z_bipush (v := 91) C d_X12_opens_4 (by decide) ?_
  refine z_icmp_eq (tgt := 19) C d_X12_opens_6 (by decide) hf (fun c6 hf => ?_) (fun c6 hf => ?_)
  · refine z_aload_n (j := 0) C d_X12_opens_19 rfl ?_
    refine zg_X12_opened C rfl tw_1253 d_X12_opens_20 ?_
    refine z_iconst (v := 4) C d_X12_opens_23 (by decide) ?_
    refine z_icmp_ne (tgt := 37) C d_X12_opens_24 (by decide) hf (fun c24 hf => ?_) (fun c24 hf => ?_)
    · refine z_aload_n (j := 0) C d_X12_opens_37 rfl ?_
      refine z_dup C d_X12_opens_38 rfl ?_
      refine zg_X12_at C rfl tw_1220 d_X12_opens_39 ?_
      refine z_iconst (v := 1) C d_X12_opens_42 (by decide) ?_
      refine z_iadd C d_X12_opens_43 ?_
      refine zp_X12_at C rfl tw_1220 d_X12_opens_44 ?_
      refine z_aload_n (j := 0) C d_X12_opens_47 rfl ?_
      refine zg_X12_open C rfl tw_1252 d_X12_opens_48 ?_
      refine z_aload_n (j := 0) C d_X12_opens_51 rfl ?_
      refine zg_X12_opened C rfl tw_1253 d_X12_opens_52 ?_
      refine z_iload_n (j := 1) C d_X12_opens_55 rfl ?_
      obtain ⟨hi56_0, hf⟩ := gd hf
      refine z_iast C rfl hi56_0 d_X12_opens_56 ?_
      refine z_aload_n (j := 0) C d_X12_opens_57 rfl ?_
      refine z_dup C d_X12_opens_58 rfl ?_
      refine zg_X12_opened C rfl tw_1253 d_X12_opens_59 ?_
      refine z_iconst (v := 1) C d_X12_opens_62 (by decide) ?_
      refine z_iadd C d_X12_opens_63 ?_
      refine zp_X12_opened C rfl tw_1253 d_X12_opens_64 ?_
      exact z_sub [] rfl (t_X12_opens_67 C hr  _ hf)
    · refine z_aload_n (j := 0) C d_X12_opens_27 rfl ?_
      refine z_iconst (v := 3) C d_X12_opens_28 (by decide) ?_
      refine z_aload_n (j := 0) C d_X12_opens_29 rfl ?_
      refine zg_X12_at C rfl tw_1220 d_X12_opens_30 ?_
      obtain ⟨q33, hF, hf⟩ := bd hf
      refine z_callV1 (rest := []) C [aI 3, aI (gI q1.2 20 9)] rfl (by decide) rfl rfl k_X12_fails tw_1415 ⟨by decide, by decide⟩ (Nat.le_of_ble_eq_true rfl) d_X12_opens_33 (c_X12_fails C.inj hF) rfl ?_
      obtain ⟨hb36_1, hf⟩ := gd hf
      exact r_i C hr (isB_nar hb36_1).1 d_X12_opens_36 hf
  · refine z_aload_n (j := 0) C d_X12_opens_9 rfl ?_
    refine z_iconst (v := 0) C d_X12_opens_10 (by decide) ?_
    refine z_aload_n (j := 0) C d_X12_opens_11 rfl ?_
    refine zg_X12_at C rfl tw_1220 d_X12_opens_12 ?_
    obtain ⟨q15, hF, hf⟩ := bd hf
    refine z_callV1 (rest := []) C [aI 0, aI (gI q1.2 20 9)] rfl (by decide) rfl rfl k_X12_fails tw_1415 ⟨by decide, by decide⟩ (Nat.le_of_ble_eq_true rfl) d_X12_opens_15 (c_X12_fails C.inj hF) rfl ?_
    obtain ⟨hb18_1, hf⟩ := gd hf
    exact r_i C hr (isB_nar hb18_1).1 d_X12_opens_18 hf
theorem d_X12_readsStep_0 : decode cX12_readsStep 0 = .ok (.aload_n 0, 1) := by decide +kernel
theorem d_X12_readsStep_1 : decode cX12_readsStep 1 = .ok (.invokevirtual 188, 3) := by decide +kernel
theorem d_X12_readsStep_4 : decode cX12_readsStep 4 = .ok (.aload_n 0, 1) := by decide +kernel
theorem d_X12_readsStep_5 : decode cX12_readsStep 5 = .ok (.getfield 89, 3) := by decide +kernel
theorem d_X12_readsStep_8 : decode cX12_readsStep 8 = .ok (.invokestatic 413, 3) := by decide +kernel
theorem d_X12_readsStep_11 : decode cX12_readsStep 11 = .ok (.istore_n 1, 1) := by decide +kernel
theorem d_X12_readsStep_12 : decode cX12_readsStep 12 = .ok (.aload_n 0, 1) := by decide +kernel
theorem d_X12_readsStep_13 : decode cX12_readsStep 13 = .ok (.getfield 144, 3) := by decide +kernel
theorem d_X12_readsStep_16 : decode cX12_readsStep 16 = .ok (.istore_n 2, 1) := by decide +kernel
theorem d_X12_readsStep_17 : decode cX12_readsStep 17 = .ok (.iload_n 1, 1) := by decide +kernel
theorem d_X12_readsStep_18 : decode cX12_readsStep 18 = .ok (.ifCond .ge 10, 3) := by decide +kernel
theorem d_X12_readsStep_21 : decode cX12_readsStep 21 = .ok (.aload_n 0, 1) := by decide +kernel
theorem d_X12_readsStep_22 : decode cX12_readsStep 22 = .ok (.iconst 0, 1) := by decide +kernel
theorem d_X12_readsStep_23 : decode cX12_readsStep 23 = .ok (.iload_n 2, 1) := by decide +kernel
theorem d_X12_readsStep_24 : decode cX12_readsStep 24 = .ok (.invokevirtual 165, 3) := by decide +kernel
theorem d_X12_readsStep_27 : decode cX12_readsStep 27 = .ok (.ireturn, 1) := by decide +kernel
theorem d_X12_readsStep_28 : decode cX12_readsStep 28 = .ok (.aload_n 0, 1) := by decide +kernel
theorem d_X12_readsStep_29 : decode cX12_readsStep 29 = .ok (.getfield 417, 3) := by decide +kernel
theorem d_X12_readsStep_32 : decode cX12_readsStep 32 = .ok (.bipush 40, 2) := by decide +kernel
theorem d_X12_readsStep_34 : decode cX12_readsStep 34 = .ok (.if_icmp .ne 10, 3) := by decide +kernel
theorem d_X12_readsStep_37 : decode cX12_readsStep 37 = .ok (.aload_n 0, 1) := by decide +kernel
theorem d_X12_readsStep_38 : decode cX12_readsStep 38 = .ok (.iconst 2, 1) := by decide +kernel
theorem d_X12_readsStep_39 : decode cX12_readsStep 39 = .ok (.iload_n 2, 1) := by decide +kernel
theorem d_X12_readsStep_40 : decode cX12_readsStep 40 = .ok (.invokevirtual 165, 3) := by decide +kernel
theorem d_X12_readsStep_43 : decode cX12_readsStep 43 = .ok (.ireturn, 1) := by decide +kernel
theorem d_X12_readsStep_44 : decode cX12_readsStep 44 = .ok (.aload_n 0, 1) := by decide +kernel
theorem d_X12_readsStep_45 : decode cX12_readsStep 45 = .ok (.getfield 417, 3) := by decide +kernel
theorem d_X12_readsStep_48 : decode cX12_readsStep 48 = .ok (.istore_n 3, 1) := by decide +kernel
theorem d_X12_readsStep_49 : decode cX12_readsStep 49 = .ok (.aload_n 0, 1) := by decide +kernel
theorem d_X12_readsStep_50 : decode cX12_readsStep 50 = .ok (.dup, 1) := by decide +kernel
theorem d_X12_readsStep_51 : decode cX12_readsStep 51 = .ok (.getfield 417, 3) := by decide +kernel
theorem d_X12_readsStep_54 : decode cX12_readsStep 54 = .ok (.iconst 1, 1) := by decide +kernel
theorem d_X12_readsStep_55 : decode cX12_readsStep 55 = .ok (.iadd, 1) := by decide +kernel
theorem d_X12_readsStep_56 : decode cX12_readsStep 56 = .ok (.putfield 417, 3) := by decide +kernel
theorem d_X12_readsStep_59 : decode cX12_readsStep 59 = .ok (.aload_n 0, 1) := by decide +kernel
theorem d_X12_readsStep_60 : decode cX12_readsStep 60 = .ok (.getfield 74, 3) := by decide +kernel
theorem d_X12_readsStep_63 : decode cX12_readsStep 63 = .ok (.iload_n 3, 1) := by decide +kernel
theorem d_X12_readsStep_64 : decode cX12_readsStep 64 = .ok (.iload_n 1, 1) := by decide +kernel
theorem d_X12_readsStep_65 : decode cX12_readsStep 65 = .ok (.iastore, 1) := by decide +kernel
theorem d_X12_readsStep_66 : decode cX12_readsStep 66 = .ok (.aload_n 0, 1) := by decide +kernel
theorem d_X12_readsStep_67 : decode cX12_readsStep 67 = .ok (.getfield 77, 3) := by decide +kernel
theorem d_X12_readsStep_70 : decode cX12_readsStep 70 = .ok (.iload_n 3, 1) := by decide +kernel
theorem d_X12_readsStep_71 : decode cX12_readsStep 71 = .ok (.iload_n 2, 1) := by decide +kernel
theorem d_X12_readsStep_72 : decode cX12_readsStep 72 = .ok (.iastore, 1) := by decide +kernel
theorem d_X12_readsStep_73 : decode cX12_readsStep 73 = .ok (.aload_n 0, 1) := by decide +kernel
theorem d_X12_readsStep_74 : decode cX12_readsStep 74 = .ok (.invokevirtual 175, 3) := by decide +kernel
theorem d_X12_readsStep_77 : decode cX12_readsStep 77 = .ok (.iload_n 1, 1) := by decide +kernel
theorem d_X12_readsStep_78 : decode cX12_readsStep 78 = .ok (.tableswitch 186 0 5 #[38, 38, 68, 117, 133, 148], 38) := by decide +kernel
theorem d_X12_readsStep_116 : decode cX12_readsStep 116 = .ok (.aload_n 0, 1) := by decide +kernel
theorem d_X12_readsStep_117 : decode cX12_readsStep 117 = .ok (.iload_n 3, 1) := by decide +kernel
theorem d_X12_readsStep_118 : decode cX12_readsStep 118 = .ok (.iconst 2, 1) := by decide +kernel
theorem d_X12_readsStep_119 : decode cX12_readsStep 119 = .ok (.iconst 4, 1) := by decide +kernel
theorem d_X12_readsStep_120 : decode cX12_readsStep 120 = .ok (.iconst 1, 1) := by decide +kernel
theorem d_X12_readsStep_121 : decode cX12_readsStep 121 = .ok (.iconst 0, 1) := by decide +kernel
theorem d_X12_readsStep_122 : decode cX12_readsStep 122 = .ok (.invokevirtual 420, 3) := by decide +kernel
theorem d_X12_readsStep_125 : decode cX12_readsStep 125 = .ok (.ifCond .eq 15, 3) := by decide +kernel
theorem d_X12_readsStep_128 : decode cX12_readsStep 128 = .ok (.aload_n 0, 1) := by decide +kernel
theorem d_X12_readsStep_129 : decode cX12_readsStep 129 = .ok (.iload_n 3, 1) := by decide +kernel
theorem d_X12_readsStep_130 : decode cX12_readsStep 130 = .ok (.invokevirtual 424, 3) := by decide +kernel
theorem d_X12_readsStep_133 : decode cX12_readsStep 133 = .ok (.ifCond .eq 7, 3) := by decide +kernel
theorem d_X12_readsStep_136 : decode cX12_readsStep 136 = .ok (.iconst 1, 1) := by decide +kernel
theorem d_X12_readsStep_137 : decode cX12_readsStep 137 = .ok (.goto 4, 3) := by decide +kernel
theorem d_X12_readsStep_140 : decode cX12_readsStep 140 = .ok (.iconst 0, 1) := by decide +kernel
theorem d_X12_readsStep_141 : decode cX12_readsStep 141 = .ok (.istore 4, 2) := by decide +kernel
theorem d_X12_readsStep_143 : decode cX12_readsStep 143 = .ok (.goto 149, 3) := by decide +kernel
theorem d_X12_readsStep_146 : decode cX12_readsStep 146 = .ok (.aload_n 0, 1) := by decide +kernel
theorem d_X12_readsStep_147 : decode cX12_readsStep 147 = .ok (.iload_n 3, 1) := by decide +kernel
theorem d_X12_readsStep_148 : decode cX12_readsStep 148 = .ok (.iconst 3, 1) := by decide +kernel
theorem d_X12_readsStep_149 : decode cX12_readsStep 149 = .ok (.iconst 4, 1) := by decide +kernel
theorem d_X12_readsStep_150 : decode cX12_readsStep 150 = .ok (.bipush 40, 2) := by decide +kernel
theorem d_X12_readsStep_152 : decode cX12_readsStep 152 = .ok (.bipush 40, 2) := by decide +kernel
theorem d_X12_readsStep_154 : decode cX12_readsStep 154 = .ok (.invokevirtual 420, 3) := by decide +kernel
theorem d_X12_readsStep_157 : decode cX12_readsStep 157 = .ok (.ifCond .eq 18, 3) := by decide +kernel
theorem d_X12_readsStep_160 : decode cX12_readsStep 160 = .ok (.aload_n 0, 1) := by decide +kernel
theorem d_X12_readsStep_161 : decode cX12_readsStep 161 = .ok (.iconst 1, 1) := by decide +kernel
theorem d_X12_readsStep_162 : decode cX12_readsStep 162 = .ok (.ldc_w 427, 3) := by decide +kernel
theorem d_X12_readsStep_165 : decode cX12_readsStep 165 = .ok (.invokevirtual 178, 3) := by decide +kernel
theorem d_X12_readsStep_168 : decode cX12_readsStep 168 = .ok (.ifCond .eq 7, 3) := by decide +kernel
theorem d_X12_readsStep_171 : decode cX12_readsStep 171 = .ok (.iconst 1, 1) := by decide +kernel
theorem d_X12_readsStep_172 : decode cX12_readsStep 172 = .ok (.goto 4, 3) := by decide +kernel
theorem d_X12_readsStep_175 : decode cX12_readsStep 175 = .ok (.iconst 0, 1) := by decide +kernel
theorem d_X12_readsStep_176 : decode cX12_readsStep 176 = .ok (.istore 4, 2) := by decide +kernel
theorem d_X12_readsStep_178 : decode cX12_readsStep 178 = .ok (.aload_n 0, 1) := by decide +kernel
theorem d_X12_readsStep_179 : decode cX12_readsStep 179 = .ok (.getfield 80, 3) := by decide +kernel
theorem d_X12_readsStep_182 : decode cX12_readsStep 182 = .ok (.iconst 4, 1) := by decide +kernel
theorem d_X12_readsStep_183 : decode cX12_readsStep 183 = .ok (.iload_n 3, 1) := by decide +kernel
theorem d_X12_readsStep_184 : decode cX12_readsStep 184 = .ok (.imul, 1) := by decide +kernel
theorem d_X12_readsStep_185 : decode cX12_readsStep 185 = .ok (.iconst 3, 1) := by decide +kernel
theorem d_X12_readsStep_186 : decode cX12_readsStep 186 = .ok (.iadd, 1) := by decide +kernel
theorem d_X12_readsStep_187 : decode cX12_readsStep 187 = .ok (.aload_n 0, 1) := by decide +kernel
theorem d_X12_readsStep_188 : decode cX12_readsStep 188 = .ok (.getfield 169, 3) := by decide +kernel
theorem d_X12_readsStep_191 : decode cX12_readsStep 191 = .ok (.iastore, 1) := by decide +kernel
theorem d_X12_readsStep_192 : decode cX12_readsStep 192 = .ok (.goto 100, 3) := by decide +kernel
theorem d_X12_readsStep_195 : decode cX12_readsStep 195 = .ok (.aload_n 0, 1) := by decide +kernel
theorem d_X12_readsStep_196 : decode cX12_readsStep 196 = .ok (.iload_n 3, 1) := by decide +kernel
theorem d_X12_readsStep_197 : decode cX12_readsStep 197 = .ok (.iconst 3, 1) := by decide +kernel
theorem d_X12_readsStep_198 : decode cX12_readsStep 198 = .ok (.iconst 4, 1) := by decide +kernel
theorem d_X12_readsStep_199 : decode cX12_readsStep 199 = .ok (.bipush 40, 2) := by decide +kernel
theorem d_X12_readsStep_201 : decode cX12_readsStep 201 = .ok (.bipush 40, 2) := by decide +kernel
theorem d_X12_readsStep_203 : decode cX12_readsStep 203 = .ok (.invokevirtual 420, 3) := by decide +kernel
theorem d_X12_readsStep_206 : decode cX12_readsStep 206 = .ok (.istore 4, 2) := by decide +kernel
theorem d_X12_readsStep_208 : decode cX12_readsStep 208 = .ok (.goto 84, 3) := by decide +kernel
theorem d_X12_readsStep_211 : decode cX12_readsStep 211 = .ok (.aload_n 0, 1) := by decide +kernel
theorem d_X12_readsStep_212 : decode cX12_readsStep 212 = .ok (.iload_n 3, 1) := by decide +kernel
theorem d_X12_readsStep_213 : decode cX12_readsStep 213 = .ok (.iconst 2, 1) := by decide +kernel
theorem d_X12_readsStep_214 : decode cX12_readsStep 214 = .ok (.iconst 4, 1) := by decide +kernel
theorem d_X12_readsStep_215 : decode cX12_readsStep 215 = .ok (.ldc 187, 2) := by decide +kernel
theorem d_X12_readsStep_217 : decode cX12_readsStep 217 = .ok (.iconst 0, 1) := by decide +kernel
theorem d_X12_readsStep_218 : decode cX12_readsStep 218 = .ok (.invokevirtual 420, 3) := by decide +kernel
theorem d_X12_readsStep_221 : decode cX12_readsStep 221 = .ok (.istore 4, 2) := by decide +kernel
theorem d_X12_readsStep_223 : decode cX12_readsStep 223 = .ok (.goto 69, 3) := by decide +kernel
theorem d_X12_readsStep_226 : decode cX12_readsStep 226 = .ok (.aload_n 0, 1) := by decide +kernel
theorem d_X12_readsStep_227 : decode cX12_readsStep 227 = .ok (.iload_n 3, 1) := by decide +kernel
theorem d_X12_readsStep_228 : decode cX12_readsStep 228 = .ok (.iconst 2, 1) := by decide +kernel
theorem d_X12_readsStep_229 : decode cX12_readsStep 229 = .ok (.iconst 4, 1) := by decide +kernel
theorem d_X12_readsStep_230 : decode cX12_readsStep 230 = .ok (.iconst 1, 1) := by decide +kernel
theorem d_X12_readsStep_231 : decode cX12_readsStep 231 = .ok (.iconst 0, 1) := by decide +kernel
theorem d_X12_readsStep_232 : decode cX12_readsStep 232 = .ok (.invokevirtual 420, 3) := by decide +kernel
theorem d_X12_readsStep_235 : decode cX12_readsStep 235 = .ok (.ifCond .eq 23, 3) := by decide +kernel
theorem d_X12_readsStep_238 : decode cX12_readsStep 238 = .ok (.aload_n 0, 1) := by decide +kernel
theorem d_X12_readsStep_239 : decode cX12_readsStep 239 = .ok (.iload_n 3, 1) := by decide +kernel
theorem d_X12_readsStep_240 : decode cX12_readsStep 240 = .ok (.invokevirtual 424, 3) := by decide +kernel
theorem d_X12_readsStep_243 : decode cX12_readsStep 243 = .ok (.ifCond .eq 15, 3) := by decide +kernel
theorem d_X12_readsStep_246 : decode cX12_readsStep 246 = .ok (.aload_n 0, 1) := by decide +kernel
theorem d_X12_readsStep_247 : decode cX12_readsStep 247 = .ok (.iload_n 3, 1) := by decide +kernel
theorem d_X12_readsStep_248 : decode cX12_readsStep 248 = .ok (.invokevirtual 428, 3) := by decide +kernel
theorem d_X12_readsStep_251 : decode cX12_readsStep 251 = .ok (.ifCond .eq 7, 3) := by decide +kernel
theorem d_X12_readsStep_254 : decode cX12_readsStep 254 = .ok (.iconst 1, 1) := by decide +kernel
theorem d_X12_readsStep_255 : decode cX12_readsStep 255 = .ok (.goto 4, 3) := by decide +kernel
theorem d_X12_readsStep_258 : decode cX12_readsStep 258 = .ok (.iconst 0, 1) := by decide +kernel
theorem d_X12_readsStep_259 : decode cX12_readsStep 259 = .ok (.istore 4, 2) := by decide +kernel
theorem d_X12_readsStep_261 : decode cX12_readsStep 261 = .ok (.goto 31, 3) := by decide +kernel
theorem d_X12_readsStep_264 : decode cX12_readsStep 264 = .ok (.aload_n 0, 1) := by decide +kernel
theorem d_X12_readsStep_265 : decode cX12_readsStep 265 = .ok (.iload_n 3, 1) := by decide +kernel
theorem d_X12_readsStep_266 : decode cX12_readsStep 266 = .ok (.iconst 1, 1) := by decide +kernel
theorem d_X12_readsStep_267 : decode cX12_readsStep 267 = .ok (.bipush 20, 2) := by decide +kernel
theorem d_X12_readsStep_269 : decode cX12_readsStep 269 = .ok (.iconst 0, 1) := by decide +kernel
theorem d_X12_readsStep_270 : decode cX12_readsStep 270 = .ok (.iconst 0, 1) := by decide +kernel
theorem d_X12_readsStep_271 : decode cX12_readsStep 271 = .ok (.invokevirtual 420, 3) := by decide +kernel
theorem d_X12_readsStep_274 : decode cX12_readsStep 274 = .ok (.ifCond .eq 15, 3) := by decide +kernel
theorem d_X12_readsStep_277 : decode cX12_readsStep 277 = .ok (.aload_n 0, 1) := by decide +kernel
theorem d_X12_readsStep_278 : decode cX12_readsStep 278 = .ok (.iload_n 3, 1) := by decide +kernel
theorem d_X12_readsStep_279 : decode cX12_readsStep 279 = .ok (.invokevirtual 428, 3) := by decide +kernel
theorem d_X12_readsStep_282 : decode cX12_readsStep 282 = .ok (.ifCond .eq 7, 3) := by decide +kernel
theorem d_X12_readsStep_285 : decode cX12_readsStep 285 = .ok (.iconst 1, 1) := by decide +kernel
theorem d_X12_readsStep_286 : decode cX12_readsStep 286 = .ok (.goto 4, 3) := by decide +kernel
theorem d_X12_readsStep_289 : decode cX12_readsStep 289 = .ok (.iconst 0, 1) := by decide +kernel
theorem d_X12_readsStep_290 : decode cX12_readsStep 290 = .ok (.istore 4, 2) := by decide +kernel
theorem d_X12_readsStep_292 : decode cX12_readsStep 292 = .ok (.aload_n 0, 1) := by decide +kernel
theorem d_X12_readsStep_293 : decode cX12_readsStep 293 = .ok (.getfield 86, 3) := by decide +kernel
theorem d_X12_readsStep_296 : decode cX12_readsStep 296 = .ok (.iload_n 3, 1) := by decide +kernel
theorem d_X12_readsStep_297 : decode cX12_readsStep 297 = .ok (.aload_n 0, 1) := by decide +kernel
theorem d_X12_readsStep_298 : decode cX12_readsStep 298 = .ok (.getfield 417, 3) := by decide +kernel
theorem d_X12_readsStep_301 : decode cX12_readsStep 301 = .ok (.iastore, 1) := by decide +kernel
theorem d_X12_readsStep_302 : decode cX12_readsStep 302 = .ok (.iload 4, 2) := by decide +kernel
theorem d_X12_readsStep_304 : decode cX12_readsStep 304 = .ok (.ireturn, 1) := by decide +kernel
def f_X12_readsStep_292 (v3 : Int32) (v4 : Int32) (S : Mem) : Option (Int32 × Mem) := (if inb v3 40 = true then (if isB v4 = true then (some (v4, (sI S 32 ((v3 : Int32).toNatClampNeg) (gI S 20 34)))) else none) else none)
set_option maxRecDepth 20000 in
theorem t_X12_readsStep_292 {X : MC} {Γ : GG} (C : CX X Γ cX12_readsStep 5 "TickPoolsModel" 4 90) (hr : X.2.2.2.2.2.2.2.2.1.sig.returnType = some .boolean) {q : Int32 × Mem} (v3 : Int32) (v4 : Int32) (S : Mem) (hf : f_X12_readsStep_292 v3 v4 S = some q) : ZZ X Γ 5 (QQ X Γ (some (aI q.1)) q.2) S 292 [(0, aR 20), (3, aI v3), (4, aI v4)] [] := by
  unfold f_X12_readsStep_292 at hf
  refine z_aload_n (j := 0) C d_X12_readsStep_292 rfl ?_
  refine zg_X12_behind C rfl tw_1250 d_X12_readsStep_293 ?_
  refine z_iload_n (j := 1) C d_X12_readsStep_296 rfl ?_
  refine z_aload_n (j := 0) C d_X12_readsStep_297 rfl ?_
  refine zg_X12_stepMany C rfl tw_1245 d_X12_readsStep_298 ?_
  obtain ⟨hi301_0, hf⟩ := gd hf
  refine z_iast C rfl hi301_0 d_X12_readsStep_301 ?_
  refine z_iload (j := 2) C d_X12_readsStep_302 rfl ?_
  obtain ⟨hb304_1, hf⟩ := gd hf
  exact r_i C hr (isB_nar hb304_1).1 d_X12_readsStep_304 hf
def f_X12_readsStep_141 (v3 : Int32) (s0 : Int32) (S : Mem) : Option (Int32 × Mem) := (f_X12_readsStep_292  v3 s0 S)
set_option maxRecDepth 20000 in
theorem t_X12_readsStep_141 {X : MC} {Γ : GG} (C : CX X Γ cX12_readsStep 5 "TickPoolsModel" 4 90) (hr : X.2.2.2.2.2.2.2.2.1.sig.returnType = some .boolean) {q : Int32 × Mem} (v3 : Int32) (s0 : Int32) (S : Mem) (hf : f_X12_readsStep_141 v3 s0 S = some q) : ZZ X Γ 5 (QQ X Γ (some (aI q.1)) q.2) S 141 [(0, aR 20), (3, aI v3)] [aI s0] := by
  unfold f_X12_readsStep_141 at hf
  refine z_istore (lv' := [(4, aI s0), (0, aR 20), (3, aI v3)]) C d_X12_readsStep_141 (by decide) rfl ?_
  refine z_goto (tgt := 292) C d_X12_readsStep_143 (by decide) ?_
  exact z_sub [1, 2, 0] rfl (t_X12_readsStep_292 C hr  _ _ _ hf)
def f_X12_readsStep_140 (v3 : Int32) (S : Mem) : Option (Int32 × Mem) := (f_X12_readsStep_141  v3 0 S)
set_option maxRecDepth 20000 in
theorem t_X12_readsStep_140 {X : MC} {Γ : GG} (C : CX X Γ cX12_readsStep 5 "TickPoolsModel" 4 90) (hr : X.2.2.2.2.2.2.2.2.1.sig.returnType = some .boolean) {q : Int32 × Mem} (v3 : Int32) (S : Mem) (hf : f_X12_readsStep_140 v3 S = some q) : ZZ X Γ 5 (QQ X Γ (some (aI q.1)) q.2) S 140 [(0, aR 20), (3, aI v3)] [] := by
  unfold f_X12_readsStep_140 at hf
  refine z_iconst (v := 0) C d_X12_readsStep_140 (by decide) ?_
  exact z_sub [0, 1] rfl (t_X12_readsStep_141 C hr  _ _ _ hf)
def f_X12_readsStep_116 (v3 : Int32) (S : Mem) : Option (Int32 × Mem) := ((f_X12_readsNumbers v3 2 4 1 0 S).bind fun q122 => (if q122.1 = 0 then (f_X12_readsStep_140  v3 q122.2) else ((f_X12_readsMuch v3 q122.2).bind fun q130 => (if q130.1 = 0 then (f_X12_readsStep_140  v3 q130.2) else (f_X12_readsStep_141  v3 1 q130.2)))))
set_option maxRecDepth 20000 in
theorem t_X12_readsStep_116 {X : MC} {Γ : GG} (C : CX X Γ cX12_readsStep 5 "TickPoolsModel" 4 90) (hr : X.2.2.2.2.2.2.2.2.1.sig.returnType = some .boolean) {q : Int32 × Mem} (v3 : Int32) (S : Mem) (hf : f_X12_readsStep_116 v3 S = some q) : ZZ X Γ 5 (QQ X Γ (some (aI q.1)) q.2) S 116 [(0, aR 20), (3, aI v3)] [] := by
  unfold f_X12_readsStep_116 at hf
  refine z_aload_n (j := 0) C d_X12_readsStep_116 rfl ?_
  refine z_iload_n (j := 1) C d_X12_readsStep_117 rfl ?_
  refine z_iconst (v := 2) C d_X12_readsStep_118 (by decide) ?_
  refine z_iconst (v := 4) C d_X12_readsStep_119 (by decide) ?_
  refine z_iconst (v := 1) C d_X12_readsStep_120 (by decide) ?_
  refine z_iconst (v := 0) C d_X12_readsStep_121 (by decide) ?_
  obtain ⟨q122, hF, hf⟩ := bd hf
  refine z_callV1 (rest := []) C [aI v3, aI 2, aI 4, aI 1, aI 0] rfl (by decide) rfl rfl k_X12_readsNumbers tw_1696 ⟨by decide, by decide⟩ (Nat.le_of_ble_eq_true rfl) d_X12_readsStep_122 (c_X12_readsNumbers C.inj hF) rfl ?_
  refine z_if_eq (tgt := 140) C d_X12_readsStep_125 (by decide) hf (fun c125 hf => ?_) (fun c125 hf => ?_)
  · exact z_sub [0, 1] rfl (t_X12_readsStep_140 C hr  _ _ hf)
  · refine z_aload_n (j := 0) C d_X12_readsStep_128 rfl ?_
    refine z_iload_n (j := 1) C d_X12_readsStep_129 rfl ?_
    obtain ⟨q130, hF, hf⟩ := bd hf
    refine z_callV1 (rest := []) C [aI v3] rfl (by decide) rfl rfl k_X12_readsMuch tw_1700 ⟨by decide, by decide⟩ (Nat.le_of_ble_eq_true rfl) d_X12_readsStep_130 (c_X12_readsMuch C.inj hF) rfl ?_
    refine z_if_eq (tgt := 140) C d_X12_readsStep_133 (by decide) hf (fun c133 hf => ?_) (fun c133 hf => ?_)
    · exact z_sub [0, 1] rfl (t_X12_readsStep_140 C hr  _ _ hf)
    · refine z_iconst (v := 1) C d_X12_readsStep_136 (by decide) ?_
      refine z_goto (tgt := 141) C d_X12_readsStep_137 (by decide) ?_
      exact z_sub [0, 1] rfl (t_X12_readsStep_141 C hr  _ _ _ hf)
def f_X12_readsStep_176 (v3 : Int32) (s0 : Int32) (S : Mem) : Option (Int32 × Mem) := (if inb ((4 * v3) + 3) 160 = true then (f_X12_readsStep_292  v3 s0 (sI S 30 ((((4 * v3) + 3) : Int32).toNatClampNeg) (gI S 20 11))) else none)
set_option maxRecDepth 20000 in
theorem t_X12_readsStep_176 {X : MC} {Γ : GG} (C : CX X Γ cX12_readsStep 5 "TickPoolsModel" 4 90) (hr : X.2.2.2.2.2.2.2.2.1.sig.returnType = some .boolean) {q : Int32 × Mem} (v3 : Int32) (s0 : Int32) (S : Mem) (hf : f_X12_readsStep_176 v3 s0 S = some q) : ZZ X Γ 5 (QQ X Γ (some (aI q.1)) q.2) S 176 [(0, aR 20), (3, aI v3)] [aI s0] := by
  unfold f_X12_readsStep_176 at hf
  refine z_istore (lv' := [(4, aI s0), (0, aR 20), (3, aI v3)]) C d_X12_readsStep_176 (by decide) rfl ?_
  refine z_aload_n (j := 1) C d_X12_readsStep_178 rfl ?_
  refine zg_X12_numbers C rfl tw_1248 d_X12_readsStep_179 ?_
  refine z_iconst (v := 4) C d_X12_readsStep_182 (by decide) ?_
  refine z_iload_n (j := 2) C d_X12_readsStep_183 rfl ?_
  refine z_imul C d_X12_readsStep_184 ?_
  refine z_iconst (v := 3) C d_X12_readsStep_185 (by decide) ?_
  refine z_iadd C d_X12_readsStep_186 ?_
  refine z_aload_n (j := 1) C d_X12_readsStep_187 rfl ?_
  refine zg_X12_number C rfl tw_1222 d_X12_readsStep_188 ?_
  obtain ⟨hi191_0, hf⟩ := gd hf
  refine z_iast C rfl hi191_0 d_X12_readsStep_191 ?_
  refine z_goto (tgt := 292) C d_X12_readsStep_192 (by decide) ?_
  exact z_sub [1, 2, 0] rfl (t_X12_readsStep_292 C hr  _ _ _ hf)
def f_X12_readsStep_175 (v3 : Int32) (S : Mem) : Option (Int32 × Mem) := (f_X12_readsStep_176  v3 0 S)
set_option maxRecDepth 20000 in
theorem t_X12_readsStep_175 {X : MC} {Γ : GG} (C : CX X Γ cX12_readsStep 5 "TickPoolsModel" 4 90) (hr : X.2.2.2.2.2.2.2.2.1.sig.returnType = some .boolean) {q : Int32 × Mem} (v3 : Int32) (S : Mem) (hf : f_X12_readsStep_175 v3 S = some q) : ZZ X Γ 5 (QQ X Γ (some (aI q.1)) q.2) S 175 [(0, aR 20), (3, aI v3)] [] := by
  unfold f_X12_readsStep_175 at hf
  refine z_iconst (v := 0) C d_X12_readsStep_175 (by decide) ?_
  exact z_sub [0, 1] rfl (t_X12_readsStep_176 C hr  _ _ _ hf)
def f_X12_readsStep_259 (v3 : Int32) (s0 : Int32) (S : Mem) : Option (Int32 × Mem) := (f_X12_readsStep_292  v3 s0 S)
set_option maxRecDepth 20000 in
theorem t_X12_readsStep_259 {X : MC} {Γ : GG} (C : CX X Γ cX12_readsStep 5 "TickPoolsModel" 4 90) (hr : X.2.2.2.2.2.2.2.2.1.sig.returnType = some .boolean) {q : Int32 × Mem} (v3 : Int32) (s0 : Int32) (S : Mem) (hf : f_X12_readsStep_259 v3 s0 S = some q) : ZZ X Γ 5 (QQ X Γ (some (aI q.1)) q.2) S 259 [(0, aR 20), (3, aI v3)] [aI s0] := by
  unfold f_X12_readsStep_259 at hf
  refine z_istore (lv' := [(4, aI s0), (0, aR 20), (3, aI v3)]) C d_X12_readsStep_259 (by decide) rfl ?_
  refine z_goto (tgt := 292) C d_X12_readsStep_261 (by decide) ?_
  exact z_sub [1, 2, 0] rfl (t_X12_readsStep_292 C hr  _ _ _ hf)
def f_X12_readsStep_258 (v3 : Int32) (S : Mem) : Option (Int32 × Mem) := (f_X12_readsStep_259  v3 0 S)
set_option maxRecDepth 20000 in
theorem t_X12_readsStep_258 {X : MC} {Γ : GG} (C : CX X Γ cX12_readsStep 5 "TickPoolsModel" 4 90) (hr : X.2.2.2.2.2.2.2.2.1.sig.returnType = some .boolean) {q : Int32 × Mem} (v3 : Int32) (S : Mem) (hf : f_X12_readsStep_258 v3 S = some q) : ZZ X Γ 5 (QQ X Γ (some (aI q.1)) q.2) S 258 [(0, aR 20), (3, aI v3)] [] := by
  unfold f_X12_readsStep_258 at hf
  refine z_iconst (v := 0) C d_X12_readsStep_258 (by decide) ?_
  exact z_sub [0, 1] rfl (t_X12_readsStep_259 C hr  _ _ _ hf)
def f_X12_readsStep_290 (v3 : Int32) (s0 : Int32) (S : Mem) : Option (Int32 × Mem) := (f_X12_readsStep_292  v3 s0 S)
set_option maxRecDepth 20000 in
theorem t_X12_readsStep_290 {X : MC} {Γ : GG} (C : CX X Γ cX12_readsStep 5 "TickPoolsModel" 4 90) (hr : X.2.2.2.2.2.2.2.2.1.sig.returnType = some .boolean) {q : Int32 × Mem} (v3 : Int32) (s0 : Int32) (S : Mem) (hf : f_X12_readsStep_290 v3 s0 S = some q) : ZZ X Γ 5 (QQ X Γ (some (aI q.1)) q.2) S 290 [(0, aR 20), (3, aI v3)] [aI s0] := by
  unfold f_X12_readsStep_290 at hf
  refine z_istore (lv' := [(4, aI s0), (0, aR 20), (3, aI v3)]) C d_X12_readsStep_290 (by decide) rfl ?_
  exact z_sub [1, 2, 0] rfl (t_X12_readsStep_292 C hr  _ _ _ hf)
def f_X12_readsStep_289 (v3 : Int32) (S : Mem) : Option (Int32 × Mem) := (f_X12_readsStep_290  v3 0 S)
set_option maxRecDepth 20000 in
theorem t_X12_readsStep_289 {X : MC} {Γ : GG} (C : CX X Γ cX12_readsStep 5 "TickPoolsModel" 4 90) (hr : X.2.2.2.2.2.2.2.2.1.sig.returnType = some .boolean) {q : Int32 × Mem} (v3 : Int32) (S : Mem) (hf : f_X12_readsStep_289 v3 S = some q) : ZZ X Γ 5 (QQ X Γ (some (aI q.1)) q.2) S 289 [(0, aR 20), (3, aI v3)] [] := by
  unfold f_X12_readsStep_289 at hf
  refine z_iconst (v := 0) C d_X12_readsStep_289 (by decide) ?_
  exact z_sub [0, 1] rfl (t_X12_readsStep_290 C hr  _ _ _ hf)
def f_X12_readsStep_73 (v1 : Int32) (v3 : Int32) (S : Mem) : Option (Int32 × Mem) := ((f_X12_passWord S).bind fun q74 => (if v1 = 0 then (f_X12_readsStep_116  v3 q74.2) else (if v1 = 1 then (f_X12_readsStep_116  v3 q74.2) else (if v1 = 2 then ((f_X12_readsNumbers v3 3 4 40 40 q74.2).bind fun q154 => (if q154.1 = 0 then (f_X12_readsStep_175  v3 q154.2) else ((f_X12_reads 1 99999 q154.2).bind fun q165 => (if q165.1 = 0 then (f_X12_readsStep_175  v3 q165.2) else (f_X12_readsStep_176  v3 1 q165.2))))) else (if v1 = 3 then ((f_X12_readsNumbers v3 3 4 40 40 q74.2).bind fun q203 => (f_X12_readsStep_292  v3 q203.1 q203.2)) else (if v1 = 4 then ((f_X12_readsNumbers v3 2 4 9999999 0 q74.2).bind fun q218 => (f_X12_readsStep_292  v3 q218.1 q218.2)) else (if v1 = 5 then ((f_X12_readsNumbers v3 2 4 1 0 q74.2).bind fun q232 => (if q232.1 = 0 then (f_X12_readsStep_258  v3 q232.2) else ((f_X12_readsMuch v3 q232.2).bind fun q240 => (if q240.1 = 0 then (f_X12_readsStep_258  v3 q240.2) else ((f_X12_opens v3 q240.2).bind fun q248 => (if q248.1 = 0 then (f_X12_readsStep_258  v3 q248.2) else (f_X12_readsStep_259  v3 1 q248.2))))))) else ((f_X12_readsNumbers v3 1 20 0 0 q74.2).bind fun q271 => (if q271.1 = 0 then (f_X12_readsStep_289  v3 q271.2) else ((f_X12_opens v3 q271.2).bind fun q279 => (if q279.1 = 0 then (f_X12_readsStep_289  v3 q279.2) else (f_X12_readsStep_290  v3 1 q279.2))))))))))))
set_option maxRecDepth 20000 in
theorem t_X12_readsStep_73 {X : MC} {Γ : GG} (C : CX X Γ cX12_readsStep 5 "TickPoolsModel" 4 90) (hr : X.2.2.2.2.2.2.2.2.1.sig.returnType = some .boolean) {q : Int32 × Mem} (v1 : Int32) (v3 : Int32) (S : Mem) (hf : f_X12_readsStep_73 v1 v3 S = some q) : ZZ X Γ 5 (QQ X Γ (some (aI q.1)) q.2) S 73 [(0, aR 20), (1, aI v1), (3, aI v3)] [] := by
  unfold f_X12_readsStep_73 at hf
  refine z_aload_n (j := 0) C d_X12_readsStep_73 rfl ?_
  obtain ⟨q74, hF, hf⟩ := bd hf
  refine z_callV0 (rest := []) C [] rfl (by decide) rfl rfl k_X12_passWord tw_1423 ⟨by decide, by decide⟩ (Nat.le_of_ble_eq_true rfl) d_X12_readsStep_74 (c_X12_passWord C.inj hF) rfl ?_
  refine z_iload_n (j := 1) C d_X12_readsStep_77 rfl ?_
  by_cases c78_0 : v1 = 0
  · rw [if_pos c78_0] at hf
    refine z_tin (tgt := 116) C d_X12_readsStep_78 (by rw [c78_0]; decide) (by rw [c78_0]; decide) (by rw [c78_0]; rfl) (by decide) ?_
    exact z_sub [0, 2] rfl (t_X12_readsStep_116 C hr  _ _ hf)
  rw [if_neg c78_0] at hf
  have d78_0 := tn (n := 0) c78_0 (by decide)
  by_cases c78_1 : v1 = 1
  · rw [if_pos c78_1] at hf
    refine z_tin (tgt := 116) C d_X12_readsStep_78 (by rw [c78_1]; decide) (by rw [c78_1]; decide) (by rw [c78_1]; rfl) (by decide) ?_
    exact z_sub [0, 2] rfl (t_X12_readsStep_116 C hr  _ _ hf)
  rw [if_neg c78_1] at hf
  have d78_1 := tn (n := 1) c78_1 (by decide)
  by_cases c78_2 : v1 = 2
  · rw [if_pos c78_2] at hf
    refine z_tin (tgt := 146) C d_X12_readsStep_78 (by rw [c78_2]; decide) (by rw [c78_2]; decide) (by rw [c78_2]; rfl) (by decide) ?_
    refine z_aload_n (j := 0) C d_X12_readsStep_146 rfl ?_
    refine z_iload_n (j := 2) C d_X12_readsStep_147 rfl ?_
    refine z_iconst (v := 3) C d_X12_readsStep_148 (by decide) ?_
    refine z_iconst (v := 4) C d_X12_readsStep_149 (by decide) ?_
    refine z_bipush (v := 40) C d_X12_readsStep_150 (by decide) ?_
    refine z_bipush (v := 40) C d_X12_readsStep_152 (by decide) ?_
    obtain ⟨q154, hF, hf⟩ := bd hf
    refine z_callV1 (rest := []) C [aI v3, aI 3, aI 4, aI 40, aI 40] rfl (by decide) rfl rfl k_X12_readsNumbers tw_1696 ⟨by decide, by decide⟩ (Nat.le_of_ble_eq_true rfl) d_X12_readsStep_154 (c_X12_readsNumbers C.inj hF) rfl ?_
    refine z_if_eq (tgt := 175) C d_X12_readsStep_157 (by decide) hf (fun c157 hf => ?_) (fun c157 hf => ?_)
    · exact z_sub [0, 2] rfl (t_X12_readsStep_175 C hr  _ _ hf)
    · refine z_aload_n (j := 0) C d_X12_readsStep_160 rfl ?_
      refine z_iconst (v := 1) C d_X12_readsStep_161 (by decide) ?_
      refine z_ldcw (v := 99999) C tw_1704 d_X12_readsStep_162 ?_
      obtain ⟨q165, hF, hf⟩ := bd hf
      refine z_callV1 (rest := []) C [aI 1, aI 99999] rfl (by decide) rfl rfl k_X12_reads tw_1427 ⟨by decide, by decide⟩ (Nat.le_of_ble_eq_true rfl) d_X12_readsStep_165 (c_X12_reads C.inj hF) rfl ?_
      refine z_if_eq (tgt := 175) C d_X12_readsStep_168 (by decide) hf (fun c168 hf => ?_) (fun c168 hf => ?_)
      · exact z_sub [0, 2] rfl (t_X12_readsStep_175 C hr  _ _ hf)
      · refine z_iconst (v := 1) C d_X12_readsStep_171 (by decide) ?_
        refine z_goto (tgt := 176) C d_X12_readsStep_172 (by decide) ?_
        exact z_sub [0, 2] rfl (t_X12_readsStep_176 C hr  _ _ _ hf)
  rw [if_neg c78_2] at hf
  have d78_2 := tn (n := 2) c78_2 (by decide)
  by_cases c78_3 : v1 = 3
  · rw [if_pos c78_3] at hf
    refine z_tin (tgt := 195) C d_X12_readsStep_78 (by rw [c78_3]; decide) (by rw [c78_3]; decide) (by rw [c78_3]; rfl) (by decide) ?_
    refine z_aload_n (j := 0) C d_X12_readsStep_195 rfl ?_
    refine z_iload_n (j := 2) C d_X12_readsStep_196 rfl ?_
    refine z_iconst (v := 3) C d_X12_readsStep_197 (by decide) ?_
    refine z_iconst (v := 4) C d_X12_readsStep_198 (by decide) ?_
    refine z_bipush (v := 40) C d_X12_readsStep_199 (by decide) ?_
    refine z_bipush (v := 40) C d_X12_readsStep_201 (by decide) ?_
    obtain ⟨q203, hF, hf⟩ := bd hf
    refine z_callV1 (rest := []) C [aI v3, aI 3, aI 4, aI 40, aI 40] rfl (by decide) rfl rfl k_X12_readsNumbers tw_1696 ⟨by decide, by decide⟩ (Nat.le_of_ble_eq_true rfl) d_X12_readsStep_203 (c_X12_readsNumbers C.inj hF) rfl ?_
    refine z_istore (lv' := [(4, aI q203.1), (0, aR 20), (1, aI v1), (3, aI v3)]) C d_X12_readsStep_206 (by decide) rfl ?_
    refine z_goto (tgt := 292) C d_X12_readsStep_208 (by decide) ?_
    exact z_sub [1, 3, 0] rfl (t_X12_readsStep_292 C hr  _ _ _ hf)
  rw [if_neg c78_3] at hf
  have d78_3 := tn (n := 3) c78_3 (by decide)
  by_cases c78_4 : v1 = 4
  · rw [if_pos c78_4] at hf
    refine z_tin (tgt := 211) C d_X12_readsStep_78 (by rw [c78_4]; decide) (by rw [c78_4]; decide) (by rw [c78_4]; rfl) (by decide) ?_
    refine z_aload_n (j := 0) C d_X12_readsStep_211 rfl ?_
    refine z_iload_n (j := 2) C d_X12_readsStep_212 rfl ?_
    refine z_iconst (v := 2) C d_X12_readsStep_213 (by decide) ?_
    refine z_iconst (v := 4) C d_X12_readsStep_214 (by decide) ?_
    refine z_ldc (v := 9999999) C tw_1442 d_X12_readsStep_215 ?_
    refine z_iconst (v := 0) C d_X12_readsStep_217 (by decide) ?_
    obtain ⟨q218, hF, hf⟩ := bd hf
    refine z_callV1 (rest := []) C [aI v3, aI 2, aI 4, aI 9999999, aI 0] rfl (by decide) rfl rfl k_X12_readsNumbers tw_1696 ⟨by decide, by decide⟩ (Nat.le_of_ble_eq_true rfl) d_X12_readsStep_218 (c_X12_readsNumbers C.inj hF) rfl ?_
    refine z_istore (lv' := [(4, aI q218.1), (0, aR 20), (1, aI v1), (3, aI v3)]) C d_X12_readsStep_221 (by decide) rfl ?_
    refine z_goto (tgt := 292) C d_X12_readsStep_223 (by decide) ?_
    exact z_sub [1, 3, 0] rfl (t_X12_readsStep_292 C hr  _ _ _ hf)
  rw [if_neg c78_4] at hf
  have d78_4 := tn (n := 4) c78_4 (by decide)
  by_cases c78_5 : v1 = 5
  · rw [if_pos c78_5] at hf
    refine z_tin (tgt := 226) C d_X12_readsStep_78 (by rw [c78_5]; decide) (by rw [c78_5]; decide) (by rw [c78_5]; rfl) (by decide) ?_
    refine z_aload_n (j := 0) C d_X12_readsStep_226 rfl ?_
    refine z_iload_n (j := 2) C d_X12_readsStep_227 rfl ?_
    refine z_iconst (v := 2) C d_X12_readsStep_228 (by decide) ?_
    refine z_iconst (v := 4) C d_X12_readsStep_229 (by decide) ?_
    refine z_iconst (v := 1) C d_X12_readsStep_230 (by decide) ?_
    refine z_iconst (v := 0) C d_X12_readsStep_231 (by decide) ?_
    obtain ⟨q232, hF, hf⟩ := bd hf
    refine z_callV1 (rest := []) C [aI v3, aI 2, aI 4, aI 1, aI 0] rfl (by decide) rfl rfl k_X12_readsNumbers tw_1696 ⟨by decide, by decide⟩ (Nat.le_of_ble_eq_true rfl) d_X12_readsStep_232 (c_X12_readsNumbers C.inj hF) rfl ?_
    refine z_if_eq (tgt := 258) C d_X12_readsStep_235 (by decide) hf (fun c235 hf => ?_) (fun c235 hf => ?_)
    · exact z_sub [0, 2] rfl (t_X12_readsStep_258 C hr  _ _ hf)
    · refine z_aload_n (j := 0) C d_X12_readsStep_238 rfl ?_
      refine z_iload_n (j := 2) C d_X12_readsStep_239 rfl ?_
      obtain ⟨q240, hF, hf⟩ := bd hf
      refine z_callV1 (rest := []) C [aI v3] rfl (by decide) rfl rfl k_X12_readsMuch tw_1700 ⟨by decide, by decide⟩ (Nat.le_of_ble_eq_true rfl) d_X12_readsStep_240 (c_X12_readsMuch C.inj hF) rfl ?_
      refine z_if_eq (tgt := 258) C d_X12_readsStep_243 (by decide) hf (fun c243 hf => ?_) (fun c243 hf => ?_)
      · exact z_sub [0, 2] rfl (t_X12_readsStep_258 C hr  _ _ hf)
      · refine z_aload_n (j := 0) C d_X12_readsStep_246 rfl ?_
        refine z_iload_n (j := 2) C d_X12_readsStep_247 rfl ?_
        obtain ⟨q248, hF, hf⟩ := bd hf
        refine z_callV1 (rest := []) C [aI v3] rfl (by decide) rfl rfl k_X12_opens tw_1705 ⟨by decide, by decide⟩ (Nat.le_of_ble_eq_true rfl) d_X12_readsStep_248 (c_X12_opens C.inj hF) rfl ?_
        refine z_if_eq (tgt := 258) C d_X12_readsStep_251 (by decide) hf (fun c251 hf => ?_) (fun c251 hf => ?_)
        · exact z_sub [0, 2] rfl (t_X12_readsStep_258 C hr  _ _ hf)
        · refine z_iconst (v := 1) C d_X12_readsStep_254 (by decide) ?_
          refine z_goto (tgt := 259) C d_X12_readsStep_255 (by decide) ?_
          exact z_sub [0, 2] rfl (t_X12_readsStep_259 C hr  _ _ _ hf)
  rw [if_neg c78_5] at hf
  have d78_5 := tn (n := 5) c78_5 (by decide)
  refine z_tout (tgt := 264) C d_X12_readsStep_78 (by omega) (by decide) ?_
  refine z_aload_n (j := 0) C d_X12_readsStep_264 rfl ?_
  refine z_iload_n (j := 2) C d_X12_readsStep_265 rfl ?_
  refine z_iconst (v := 1) C d_X12_readsStep_266 (by decide) ?_
  refine z_bipush (v := 20) C d_X12_readsStep_267 (by decide) ?_
  refine z_iconst (v := 0) C d_X12_readsStep_269 (by decide) ?_
  refine z_iconst (v := 0) C d_X12_readsStep_270 (by decide) ?_
  obtain ⟨q271, hF, hf⟩ := bd hf
  refine z_callV1 (rest := []) C [aI v3, aI 1, aI 20, aI 0, aI 0] rfl (by decide) rfl rfl k_X12_readsNumbers tw_1696 ⟨by decide, by decide⟩ (Nat.le_of_ble_eq_true rfl) d_X12_readsStep_271 (c_X12_readsNumbers C.inj hF) rfl ?_
  refine z_if_eq (tgt := 289) C d_X12_readsStep_274 (by decide) hf (fun c274 hf => ?_) (fun c274 hf => ?_)
  · exact z_sub [0, 2] rfl (t_X12_readsStep_289 C hr  _ _ hf)
  · refine z_aload_n (j := 0) C d_X12_readsStep_277 rfl ?_
    refine z_iload_n (j := 2) C d_X12_readsStep_278 rfl ?_
    obtain ⟨q279, hF, hf⟩ := bd hf
    refine z_callV1 (rest := []) C [aI v3] rfl (by decide) rfl rfl k_X12_opens tw_1705 ⟨by decide, by decide⟩ (Nat.le_of_ble_eq_true rfl) d_X12_readsStep_279 (c_X12_opens C.inj hF) rfl ?_
    refine z_if_eq (tgt := 289) C d_X12_readsStep_282 (by decide) hf (fun c282 hf => ?_) (fun c282 hf => ?_)
    · exact z_sub [0, 2] rfl (t_X12_readsStep_289 C hr  _ _ hf)
    · refine z_iconst (v := 1) C d_X12_readsStep_285 (by decide) ?_
      refine z_goto (tgt := 290) C d_X12_readsStep_286 (by decide) ?_
      exact z_sub [0, 2] rfl (t_X12_readsStep_290 C hr  _ _ _ hf)
def f_X12_readsStep_49 (v1 : Int32) (v2 : Int32) (v3 : Int32) (S : Mem) : Option (Int32 × Mem) := (if inb v3 40 = true then (if inb v3 40 = true then (f_X12_readsStep_73  v1 v3 (sI (sI (sI S 20 34 ((gI S 20 34) + 1)) 28 ((v3 : Int32).toNatClampNeg) v1) 29 ((v3 : Int32).toNatClampNeg) v2)) else none) else none)
set_option maxRecDepth 20000 in
theorem t_X12_readsStep_49 {X : MC} {Γ : GG} (C : CX X Γ cX12_readsStep 5 "TickPoolsModel" 4 90) (hr : X.2.2.2.2.2.2.2.2.1.sig.returnType = some .boolean) {q : Int32 × Mem} (v1 : Int32) (v2 : Int32) (v3 : Int32) (S : Mem) (hf : f_X12_readsStep_49 v1 v2 v3 S = some q) : ZZ X Γ 5 (QQ X Γ (some (aI q.1)) q.2) S 49 [(0, aR 20), (1, aI v1), (2, aI v2), (3, aI v3)] [] := by
  unfold f_X12_readsStep_49 at hf
  refine z_aload_n (j := 0) C d_X12_readsStep_49 rfl ?_
  refine z_dup C d_X12_readsStep_50 rfl ?_
  refine zg_X12_stepMany C rfl tw_1245 d_X12_readsStep_51 ?_
  refine z_iconst (v := 1) C d_X12_readsStep_54 (by decide) ?_
  refine z_iadd C d_X12_readsStep_55 ?_
  refine zp_X12_stepMany C rfl tw_1245 d_X12_readsStep_56 ?_
  refine z_aload_n (j := 0) C d_X12_readsStep_59 rfl ?_
  refine zg_X12_kind C rfl tw_1246 d_X12_readsStep_60 ?_
  refine z_iload_n (j := 3) C d_X12_readsStep_63 rfl ?_
  refine z_iload_n (j := 1) C d_X12_readsStep_64 rfl ?_
  obtain ⟨hi65_0, hf⟩ := gd hf
  refine z_iast C rfl hi65_0 d_X12_readsStep_65 ?_
  refine z_aload_n (j := 0) C d_X12_readsStep_66 rfl ?_
  refine zg_X12_placeOf C rfl tw_1247 d_X12_readsStep_67 ?_
  refine z_iload_n (j := 3) C d_X12_readsStep_70 rfl ?_
  refine z_iload_n (j := 2) C d_X12_readsStep_71 rfl ?_
  obtain ⟨hi72_1, hf⟩ := gd hf
  refine z_iast C rfl hi72_1 d_X12_readsStep_72 ?_
  exact z_sub [0, 1, 3] rfl (t_X12_readsStep_73 C hr  _ _ _ hf)
def f_X12_readsStep_17 (v1 : Int32) (v2 : Int32) (S : Mem) : Option (Int32 × Mem) := (if 0 ≤ v1 then (if (gI S 20 34) = 40 then ((f_X12_fails 2 v2 S).bind fun q40 => (if isB q40.1 = true then (some (q40.1, q40.2)) else none)) else (f_X12_readsStep_49  v1 v2 (gI S 20 34) S)) else ((f_X12_fails 0 v2 S).bind fun q24 => (if isB q24.1 = true then (some (q24.1, q24.2)) else none)))
set_option maxRecDepth 20000 in
theorem t_X12_readsStep_17 {X : MC} {Γ : GG} (C : CX X Γ cX12_readsStep 5 "TickPoolsModel" 4 90) (hr : X.2.2.2.2.2.2.2.2.1.sig.returnType = some .boolean) {q : Int32 × Mem} (v1 : Int32) (v2 : Int32) (S : Mem) (hf : f_X12_readsStep_17 v1 v2 S = some q) : ZZ X Γ 5 (QQ X Γ (some (aI q.1)) q.2) S 17 [(0, aR 20), (1, aI v1), (2, aI v2)] [] := by
  unfold f_X12_readsStep_17 at hf
  refine z_iload_n (j := 1) C d_X12_readsStep_17 rfl ?_
  refine z_if_ge (tgt := 28) C d_X12_readsStep_18 (by decide) hf (fun c18 hf => ?_) (fun c18 hf => ?_)
  · refine z_aload_n (j := 0) C d_X12_readsStep_28 rfl ?_
    refine zg_X12_stepMany C rfl tw_1245 d_X12_readsStep_29 ?_
    refine z_bipush (v := 40) C d_X12_readsStep_32 (by decide) ?_
    refine z_icmp_ne (tgt := 44) C d_X12_readsStep_34 (by decide) hf (fun c34 hf => ?_) (fun c34 hf => ?_)
    · refine z_aload_n (j := 0) C d_X12_readsStep_44 rfl ?_
      refine zg_X12_stepMany C rfl tw_1245 d_X12_readsStep_45 ?_
      refine z_istore_n (lv' := [(3, aI (gI S 20 34)), (0, aR 20), (1, aI v1), (2, aI v2)]) C d_X12_readsStep_48 (by decide) rfl ?_
      exact z_sub [1, 2, 3, 0] rfl (t_X12_readsStep_49 C hr  _ _ _ _ hf)
    · refine z_aload_n (j := 0) C d_X12_readsStep_37 rfl ?_
      refine z_iconst (v := 2) C d_X12_readsStep_38 (by decide) ?_
      refine z_iload_n (j := 2) C d_X12_readsStep_39 rfl ?_
      obtain ⟨q40, hF, hf⟩ := bd hf
      refine z_callV1 (rest := []) C [aI 2, aI v2] rfl (by decide) rfl rfl k_X12_fails tw_1415 ⟨by decide, by decide⟩ (Nat.le_of_ble_eq_true rfl) d_X12_readsStep_40 (c_X12_fails C.inj hF) rfl ?_
      obtain ⟨hb43_1, hf⟩ := gd hf
      exact r_i C hr (isB_nar hb43_1).1 d_X12_readsStep_43 hf
  · refine z_aload_n (j := 0) C d_X12_readsStep_21 rfl ?_
    refine z_iconst (v := 0) C d_X12_readsStep_22 (by decide) ?_
    refine z_iload_n (j := 2) C d_X12_readsStep_23 rfl ?_
    obtain ⟨q24, hF, hf⟩ := bd hf
    refine z_callV1 (rest := []) C [aI 0, aI v2] rfl (by decide) rfl rfl k_X12_fails tw_1415 ⟨by decide, by decide⟩ (Nat.le_of_ble_eq_true rfl) d_X12_readsStep_24 (c_X12_fails C.inj hF) rfl ?_
    obtain ⟨hb27_1, hf⟩ := gd hf
    exact r_i C hr (isB_nar hb27_1).1 d_X12_readsStep_27 hf
/-- TickPoolsModel.readsStep()Z -/
def f_X12_readsStep (S : Mem) : Option (Int32 × Mem) := ((f_X12_wordHere S).bind fun q1 => ((f_X12_kindBy q1.1 33 q1.2).bind fun q8 => (f_X12_readsStep_17  q8.1 (gI q8.2 20 9) q8.2)))
set_option maxRecDepth 20000 in
theorem c_X12_readsStep {l : Launch} {Γ : GG} (hI : Inj Γ) {S : Mem} {q : Int32 × Mem} (hf : f_X12_readsStep S = some q) : MM l Γ yX12_readsStep cX12_readsStep 5 (some .boolean) 4 90 [aR 20] S (some (aI q.1)) q.2 := by
  refine met_of hI "TickPoolsModel" rfl (by decide +kernel) (Nat.le_of_ble_eq_true rfl) (fun X hX C hr => ?_)
  unfold f_X12_readsStep at hf
  show ZZ X Γ 5 _ S 0 [(0, aR 20)] []
  refine z_aload_n (j := 0) C d_X12_readsStep_0 rfl ?_
  obtain ⟨q1, hF, hf⟩ := bd hf
  refine z_callV1 (rest := []) C [] rfl (by decide) rfl rfl k_X12_wordHere tw_1400 ⟨by decide, by decide⟩ (Nat.le_of_ble_eq_true rfl) d_X12_readsStep_1 (c_X12_wordHere C.inj hF) rfl ?_
  refine z_aload_n (j := 0) C d_X12_readsStep_4 rfl ?_
  refine zg_X12_stepWords C rfl tw_1251 d_X12_readsStep_5 ?_
  obtain ⟨q8, hF, hf⟩ := bd hf
  refine z_callS1 (rest := []) C [aJ q1.1, aR 33] k_X12_kindBy tw_1693 ⟨by decide, by decide⟩ (Nat.le_of_ble_eq_true rfl) d_X12_readsStep_8 (c_X12_kindBy C.inj hF) rfl ?_
  refine z_istore_n (lv' := [(1, aI q8.1), (0, aR 20)]) C d_X12_readsStep_11 (by decide) rfl ?_
  refine z_aload_n (j := 1) C d_X12_readsStep_12 rfl ?_
  refine zg_X12_at C rfl tw_1220 d_X12_readsStep_13 ?_
  refine z_istore_n (lv' := [(2, aI (gI q8.2 20 9)), (1, aI q8.1), (0, aR 20)]) C d_X12_readsStep_16 (by decide) rfl ?_
  exact z_sub [2, 1, 0] rfl (t_X12_readsStep_17 C hr  _ _ _ hf)
theorem d_X12_goesOn_0 : decode cX12_goesOn 0 = .ok (.aload_n 0, 1) := by decide +kernel
theorem d_X12_goesOn_1 : decode cX12_goesOn 1 = .ok (.invokevirtual 151, 3) := by decide +kernel
theorem d_X12_goesOn_4 : decode cX12_goesOn 4 = .ok (.bipush 93, 2) := by decide +kernel
theorem d_X12_goesOn_6 : decode cX12_goesOn 6 = .ok (.if_icmp .ne 51, 3) := by decide +kernel
theorem d_X12_goesOn_9 : decode cX12_goesOn 9 = .ok (.aload_n 0, 1) := by decide +kernel
theorem d_X12_goesOn_10 : decode cX12_goesOn 10 = .ok (.getfield 410, 3) := by decide +kernel
theorem d_X12_goesOn_13 : decode cX12_goesOn 13 = .ok (.ifCond .le 44, 3) := by decide +kernel
theorem d_X12_goesOn_16 : decode cX12_goesOn 16 = .ok (.aload_n 0, 1) := by decide +kernel
theorem d_X12_goesOn_17 : decode cX12_goesOn 17 = .ok (.dup, 1) := by decide +kernel
theorem d_X12_goesOn_18 : decode cX12_goesOn 18 = .ok (.getfield 144, 3) := by decide +kernel
theorem d_X12_goesOn_21 : decode cX12_goesOn 21 = .ok (.iconst 1, 1) := by decide +kernel
theorem d_X12_goesOn_22 : decode cX12_goesOn 22 = .ok (.iadd, 1) := by decide +kernel
theorem d_X12_goesOn_23 : decode cX12_goesOn 23 = .ok (.putfield 144, 3) := by decide +kernel
theorem d_X12_goesOn_26 : decode cX12_goesOn 26 = .ok (.aload_n 0, 1) := by decide +kernel
theorem d_X12_goesOn_27 : decode cX12_goesOn 27 = .ok (.dup, 1) := by decide +kernel
theorem d_X12_goesOn_28 : decode cX12_goesOn 28 = .ok (.getfield 410, 3) := by decide +kernel
theorem d_X12_goesOn_31 : decode cX12_goesOn 31 = .ok (.iconst 1, 1) := by decide +kernel
theorem d_X12_goesOn_32 : decode cX12_goesOn 32 = .ok (.isub, 1) := by decide +kernel
theorem d_X12_goesOn_33 : decode cX12_goesOn 33 = .ok (.putfield 410, 3) := by decide +kernel
theorem d_X12_goesOn_36 : decode cX12_goesOn 36 = .ok (.aload_n 0, 1) := by decide +kernel
theorem d_X12_goesOn_37 : decode cX12_goesOn 37 = .ok (.getfield 86, 3) := by decide +kernel
theorem d_X12_goesOn_40 : decode cX12_goesOn 40 = .ok (.aload_n 0, 1) := by decide +kernel
theorem d_X12_goesOn_41 : decode cX12_goesOn 41 = .ok (.getfield 92, 3) := by decide +kernel
theorem d_X12_goesOn_44 : decode cX12_goesOn 44 = .ok (.aload_n 0, 1) := by decide +kernel
theorem d_X12_goesOn_45 : decode cX12_goesOn 45 = .ok (.getfield 410, 3) := by decide +kernel
theorem d_X12_goesOn_48 : decode cX12_goesOn 48 = .ok (.iaload, 1) := by decide +kernel
theorem d_X12_goesOn_49 : decode cX12_goesOn 49 = .ok (.aload_n 0, 1) := by decide +kernel
theorem d_X12_goesOn_50 : decode cX12_goesOn 50 = .ok (.getfield 417, 3) := by decide +kernel
theorem d_X12_goesOn_53 : decode cX12_goesOn 53 = .ok (.iastore, 1) := by decide +kernel
theorem d_X12_goesOn_54 : decode cX12_goesOn 54 = .ok (.goto (-54), 3) := by decide +kernel
theorem d_X12_goesOn_57 : decode cX12_goesOn 57 = .ok (.aload_n 0, 1) := by decide +kernel
theorem d_X12_goesOn_58 : decode cX12_goesOn 58 = .ok (.invokevirtual 151, 3) := by decide +kernel
theorem d_X12_goesOn_61 : decode cX12_goesOn 61 = .ok (.bipush 59, 2) := by decide +kernel
theorem d_X12_goesOn_63 : decode cX12_goesOn 63 = .ok (.if_icmp .ne 15, 3) := by decide +kernel
theorem d_X12_goesOn_66 : decode cX12_goesOn 66 = .ok (.aload_n 0, 1) := by decide +kernel
theorem d_X12_goesOn_67 : decode cX12_goesOn 67 = .ok (.dup, 1) := by decide +kernel
theorem d_X12_goesOn_68 : decode cX12_goesOn 68 = .ok (.getfield 144, 3) := by decide +kernel
theorem d_X12_goesOn_71 : decode cX12_goesOn 71 = .ok (.iconst 1, 1) := by decide +kernel
theorem d_X12_goesOn_72 : decode cX12_goesOn 72 = .ok (.iadd, 1) := by decide +kernel
theorem d_X12_goesOn_73 : decode cX12_goesOn 73 = .ok (.putfield 144, 3) := by decide +kernel
theorem d_X12_goesOn_76 : decode cX12_goesOn 76 = .ok (.iconst 1, 1) := by decide +kernel
theorem d_X12_goesOn_77 : decode cX12_goesOn 77 = .ok (.ireturn, 1) := by decide +kernel
theorem d_X12_goesOn_78 : decode cX12_goesOn 78 = .ok (.aload_n 0, 1) := by decide +kernel
theorem d_X12_goesOn_79 : decode cX12_goesOn 79 = .ok (.invokevirtual 151, 3) := by decide +kernel
theorem d_X12_goesOn_82 : decode cX12_goesOn 82 = .ok (.iconst (-1), 1) := by decide +kernel
theorem d_X12_goesOn_83 : decode cX12_goesOn 83 = .ok (.if_icmp .ne 14, 3) := by decide +kernel
theorem d_X12_goesOn_86 : decode cX12_goesOn 86 = .ok (.aload_n 0, 1) := by decide +kernel
theorem d_X12_goesOn_87 : decode cX12_goesOn 87 = .ok (.getfield 410, 3) := by decide +kernel
theorem d_X12_goesOn_90 : decode cX12_goesOn 90 = .ok (.ifCond .ne 7, 3) := by decide +kernel
theorem d_X12_goesOn_93 : decode cX12_goesOn 93 = .ok (.iconst 0, 1) := by decide +kernel
theorem d_X12_goesOn_94 : decode cX12_goesOn 94 = .ok (.goto 4, 3) := by decide +kernel
theorem d_X12_goesOn_97 : decode cX12_goesOn 97 = .ok (.iconst (-1), 1) := by decide +kernel
theorem d_X12_goesOn_98 : decode cX12_goesOn 98 = .ok (.ireturn, 1) := by decide +kernel
def f_X12_goesOn_98 (s0 : Int32) (S : Mem) : Option (Int32 × Mem) := (some (s0, S))
set_option maxRecDepth 20000 in
theorem t_X12_goesOn_98 {X : MC} {Γ : GG} (C : CX X Γ cX12_goesOn 1 "TickPoolsModel" 2 41) (hr : X.2.2.2.2.2.2.2.2.1.sig.returnType = some .int) {q : Int32 × Mem} (s0 : Int32) (S : Mem) (hf : f_X12_goesOn_98 s0 S = some q) : ZZ X Γ 1 (QQ X Γ (some (aI q.1)) q.2) S 98 [] [aI s0] := by
  unfold f_X12_goesOn_98 at hf
  exact r_i C hr rfl d_X12_goesOn_98 hf
def f_X12_goesOn_97 (S : Mem) : Option (Int32 × Mem) := (f_X12_goesOn_98  (-1) S)
set_option maxRecDepth 20000 in
theorem t_X12_goesOn_97 {X : MC} {Γ : GG} (C : CX X Γ cX12_goesOn 1 "TickPoolsModel" 2 41) (hr : X.2.2.2.2.2.2.2.2.1.sig.returnType = some .int) {q : Int32 × Mem} (S : Mem) (hf : f_X12_goesOn_97 S = some q) : ZZ X Γ 1 (QQ X Γ (some (aI q.1)) q.2) S 97 [] [] := by
  unfold f_X12_goesOn_97 at hf
  refine z_iconst (v := (-1)) C d_X12_goesOn_97 (by decide) ?_
  exact z_sub [] rfl (t_X12_goesOn_98 C hr  _ _ hf)
def f_X12_goesOn_57 (S : Mem) : Option (Int32 × Mem) := ((f_X12_next S).bind fun q58 => (if q58.1 = 59 then (some (1, (sI q58.2 20 9 ((gI q58.2 20 9) + 1)))) else ((f_X12_next q58.2).bind fun q79 => (if q79.1 = (-1) then (if (gI q79.2 20 42) = 0 then (f_X12_goesOn_98  0 q79.2) else (f_X12_goesOn_97  q79.2)) else (f_X12_goesOn_97  q79.2)))))
set_option maxRecDepth 20000 in
theorem t_X12_goesOn_57 {X : MC} {Γ : GG} (C : CX X Γ cX12_goesOn 1 "TickPoolsModel" 2 41) (hr : X.2.2.2.2.2.2.2.2.1.sig.returnType = some .int) {q : Int32 × Mem} (S : Mem) (hf : f_X12_goesOn_57 S = some q) : ZZ X Γ 1 (QQ X Γ (some (aI q.1)) q.2) S 57 [(0, aR 20)] [] := by
  unfold f_X12_goesOn_57 at hf
  refine z_aload_n (j := 0) C d_X12_goesOn_57 rfl ?_
  obtain ⟨q58, hF, hf⟩ := bd hf
  refine z_callV1 (rest := []) C [] rfl (by decide) rfl rfl k_X12_next tw_1404 ⟨by decide, by decide⟩ (Nat.le_of_ble_eq_true rfl) d_X12_goesOn_58 (c_X12_next C.inj hF) rfl ?_
  refine z_bipush (v := 59) C d_X12_goesOn_61 (by decide) ?_
  refine z_icmp_ne (tgt := 78) C d_X12_goesOn_63 (by decide) hf (fun c63 hf => ?_) (fun c63 hf => ?_)
  · refine z_aload_n (j := 0) C d_X12_goesOn_78 rfl ?_
    obtain ⟨q79, hF, hf⟩ := bd hf
    refine z_callV1 (rest := []) C [] rfl (by decide) rfl rfl k_X12_next tw_1404 ⟨by decide, by decide⟩ (Nat.le_of_ble_eq_true rfl) d_X12_goesOn_79 (c_X12_next C.inj hF) rfl ?_
    refine z_iconst (v := (-1)) C d_X12_goesOn_82 (by decide) ?_
    refine z_icmp_ne (tgt := 97) C d_X12_goesOn_83 (by decide) hf (fun c83 hf => ?_) (fun c83 hf => ?_)
    · exact z_sub [] rfl (t_X12_goesOn_97 C hr  _ hf)
    · refine z_aload_n (j := 0) C d_X12_goesOn_86 rfl ?_
      refine zg_X12_opened C rfl tw_1253 d_X12_goesOn_87 ?_
      refine z_if_ne (tgt := 97) C d_X12_goesOn_90 (by decide) hf (fun c90 hf => ?_) (fun c90 hf => ?_)
      · exact z_sub [] rfl (t_X12_goesOn_97 C hr  _ hf)
      · refine z_iconst (v := 0) C d_X12_goesOn_93 (by decide) ?_
        refine z_goto (tgt := 98) C d_X12_goesOn_94 (by decide) ?_
        exact z_sub [] rfl (t_X12_goesOn_98 C hr  _ _ hf)
  · refine z_aload_n (j := 0) C d_X12_goesOn_66 rfl ?_
    refine z_dup C d_X12_goesOn_67 rfl ?_
    refine zg_X12_at C rfl tw_1220 d_X12_goesOn_68 ?_
    refine z_iconst (v := 1) C d_X12_goesOn_71 (by decide) ?_
    refine z_iadd C d_X12_goesOn_72 ?_
    refine zp_X12_at C rfl tw_1220 d_X12_goesOn_73 ?_
    refine z_iconst (v := 1) C d_X12_goesOn_76 (by decide) ?_
    exact r_i C hr rfl d_X12_goesOn_77 hf
def f_X12_goesOn_0B (k0 : Mem → Option (Int32 × Mem)) (S : Mem) : Option (Int32 × Mem) := ((f_X12_next S).bind fun q1 => (if q1.1 = 93 then (if (gI q1.2 20 42) ≤ 0 then (f_X12_goesOn_57  q1.2) else (if inb (gI (sI (sI q1.2 20 9 ((gI q1.2 20 9) + 1)) 20 42 ((gI (sI q1.2 20 9 ((gI q1.2 20 9) + 1)) 20 42) - 1)) 20 42) 4 = true then (if inb (gI (sI (sI q1.2 20 9 ((gI q1.2 20 9) + 1)) 20 42 ((gI (sI q1.2 20 9 ((gI q1.2 20 9) + 1)) 20 42) - 1)) 34 (((gI (sI (sI q1.2 20 9 ((gI q1.2 20 9) + 1)) 20 42 ((gI (sI q1.2 20 9 ((gI q1.2 20 9) + 1)) 20 42) - 1)) 20 42) : Int32).toNatClampNeg)) 40 = true then (k0 (sI (sI (sI q1.2 20 9 ((gI q1.2 20 9) + 1)) 20 42 ((gI (sI q1.2 20 9 ((gI q1.2 20 9) + 1)) 20 42) - 1)) 32 (((gI (sI (sI q1.2 20 9 ((gI q1.2 20 9) + 1)) 20 42 ((gI (sI q1.2 20 9 ((gI q1.2 20 9) + 1)) 20 42) - 1)) 34 (((gI (sI (sI q1.2 20 9 ((gI q1.2 20 9) + 1)) 20 42 ((gI (sI q1.2 20 9 ((gI q1.2 20 9) + 1)) 20 42) - 1)) 20 42) : Int32).toNatClampNeg)) : Int32).toNatClampNeg) (gI (sI (sI q1.2 20 9 ((gI q1.2 20 9) + 1)) 20 42 ((gI (sI q1.2 20 9 ((gI q1.2 20 9) + 1)) 20 42) - 1)) 20 34))) else none) else none)) else (f_X12_goesOn_57  q1.2)))
set_option maxRecDepth 20000 in
theorem t_X12_goesOn_0B {X : MC} {Γ : GG} (C : CX X Γ cX12_goesOn 1 "TickPoolsModel" 2 41) (hr : X.2.2.2.2.2.2.2.2.1.sig.returnType = some .int) {k0 : Mem → Option (Int32 × Mem)} {q : Int32 × Mem} (hk0 : ∀  (S : Mem), k0  S = some q → ZZ X Γ 1 (QQ X Γ (some (aI q.1)) q.2) S 0 [(0, aR 20)] []) (S : Mem) (hf : f_X12_goesOn_0B k0 S = some q) : ZZ X Γ 1 (QQ X Γ (some (aI q.1)) q.2) S 0 [(0, aR 20)] [] := by
  unfold f_X12_goesOn_0B at hf
  refine z_aload_n (j := 0) C d_X12_goesOn_0 rfl ?_
  obtain ⟨q1, hF, hf⟩ := bd hf
  refine z_callV1 (rest := []) C [] rfl (by decide) rfl rfl k_X12_next tw_1404 ⟨by decide, by decide⟩ (Nat.le_of_ble_eq_true rfl) d_X12_goesOn_1 (c_X12_next C.inj hF) rfl ?_
  refine z_bipush (v := 93) C d_X12_goesOn_4 (by decide) ?_
  refine z_icmp_ne (tgt := 57) C d_X12_goesOn_6 (by decide) hf (fun c6 hf => ?_) (fun c6 hf => ?_)
  · exact z_sub [0] rfl (t_X12_goesOn_57 C hr  _ hf)
  · refine z_aload_n (j := 0) C d_X12_goesOn_9 rfl ?_
    refine zg_X12_opened C rfl tw_1253 d_X12_goesOn_10 ?_
    refine z_if_le (tgt := 57) C d_X12_goesOn_13 (by decide) hf (fun c13 hf => ?_) (fun c13 hf => ?_)
    · exact z_sub [0] rfl (t_X12_goesOn_57 C hr  _ hf)
    · refine z_aload_n (j := 0) C d_X12_goesOn_16 rfl ?_
      refine z_dup C d_X12_goesOn_17 rfl ?_
      refine zg_X12_at C rfl tw_1220 d_X12_goesOn_18 ?_
      refine z_iconst (v := 1) C d_X12_goesOn_21 (by decide) ?_
      refine z_iadd C d_X12_goesOn_22 ?_
      refine zp_X12_at C rfl tw_1220 d_X12_goesOn_23 ?_
      refine z_aload_n (j := 0) C d_X12_goesOn_26 rfl ?_
      refine z_dup C d_X12_goesOn_27 rfl ?_
      refine zg_X12_opened C rfl tw_1253 d_X12_goesOn_28 ?_
      refine z_iconst (v := 1) C d_X12_goesOn_31 (by decide) ?_
      refine z_isub C d_X12_goesOn_32 ?_
      refine zp_X12_opened C rfl tw_1253 d_X12_goesOn_33 ?_
      refine z_aload_n (j := 0) C d_X12_goesOn_36 rfl ?_
      refine zg_X12_behind C rfl tw_1250 d_X12_goesOn_37 ?_
      refine z_aload_n (j := 0) C d_X12_goesOn_40 rfl ?_
      refine zg_X12_open C rfl tw_1252 d_X12_goesOn_41 ?_
      refine z_aload_n (j := 0) C d_X12_goesOn_44 rfl ?_
      refine zg_X12_opened C rfl tw_1253 d_X12_goesOn_45 ?_
      obtain ⟨hi48_0, hf⟩ := gd hf
      refine z_iald C rfl hi48_0 d_X12_goesOn_48 ?_
      refine z_aload_n (j := 0) C d_X12_goesOn_49 rfl ?_
      refine zg_X12_stepMany C rfl tw_1245 d_X12_goesOn_50 ?_
      obtain ⟨hi53_1, hf⟩ := gd hf
      refine z_iast C rfl hi53_1 d_X12_goesOn_53 ?_
      refine z_goto (tgt := 0) C d_X12_goesOn_54 (by decide) ?_
      exact z_sub [0] rfl (hk0 _ hf)
def f_X12_goesOn_0 : Nat → Mem → Option (Int32 × Mem)
  | 0 => fun _ => none
  | n + 1 => f_X12_goesOn_0B (f_X12_goesOn_0 n)
theorem t_X12_goesOn_0 {X : MC} {Γ : GG} (C : CX X Γ cX12_goesOn 1 "TickPoolsModel" 2 41) (hr : X.2.2.2.2.2.2.2.2.1.sig.returnType = some .int) {q : Int32 × Mem} : ∀ (n : Nat) (S : Mem) (hf : f_X12_goesOn_0 n S = some q), ZZ X Γ 1 (QQ X Γ (some (aI q.1)) q.2) S 0 [(0, aR 20)] []
  | 0, _, hf => nomatch (show (none : Option (Int32 × Mem)) = some q from hf)
  | n + 1, S, hf => t_X12_goesOn_0B C hr (t_X12_goesOn_0 C hr n) S hf
/-- TickPoolsModel.goesOn()I -/
def f_X12_goesOn (S : Mem) : Option (Int32 × Mem) := (f_X12_goesOn_0  100000 S)
set_option maxRecDepth 20000 in
theorem c_X12_goesOn {l : Launch} {Γ : GG} (hI : Inj Γ) {S : Mem} {q : Int32 × Mem} (hf : f_X12_goesOn S = some q) : MM l Γ yX12_goesOn cX12_goesOn 1 (some .int) 2 41 [aR 20] S (some (aI q.1)) q.2 := by
  refine met_of hI "TickPoolsModel" rfl (by decide +kernel) (Nat.le_of_ble_eq_true rfl) (fun X hX C hr => ?_)
  unfold f_X12_goesOn at hf
  show ZZ X Γ 1 _ S 0 [(0, aR 20)] []
  exact z_sub [0] rfl (t_X12_goesOn_0 C hr  100000 _ hf)
theorem d_X12_readsBundle_0 : decode cX12_readsBundle 0 = .ok (.aload_n 0, 1) := by decide +kernel
theorem d_X12_readsBundle_1 : decode cX12_readsBundle 1 = .ok (.iconst 0, 1) := by decide +kernel
theorem d_X12_readsBundle_2 : decode cX12_readsBundle 2 = .ok (.putfield 144, 3) := by decide +kernel
theorem d_X12_readsBundle_5 : decode cX12_readsBundle 5 = .ok (.aload_n 0, 1) := by decide +kernel
theorem d_X12_readsBundle_6 : decode cX12_readsBundle 6 = .ok (.iconst 0, 1) := by decide +kernel
theorem d_X12_readsBundle_7 : decode cX12_readsBundle 7 = .ok (.putfield 417, 3) := by decide +kernel
theorem d_X12_readsBundle_10 : decode cX12_readsBundle 10 = .ok (.aload_n 0, 1) := by decide +kernel
theorem d_X12_readsBundle_11 : decode cX12_readsBundle 11 = .ok (.iconst 0, 1) := by decide +kernel
theorem d_X12_readsBundle_12 : decode cX12_readsBundle 12 = .ok (.putfield 410, 3) := by decide +kernel
theorem d_X12_readsBundle_15 : decode cX12_readsBundle 15 = .ok (.iconst 1, 1) := by decide +kernel
theorem d_X12_readsBundle_16 : decode cX12_readsBundle 16 = .ok (.istore_n 1, 1) := by decide +kernel
theorem d_X12_readsBundle_17 : decode cX12_readsBundle 17 = .ok (.iload_n 1, 1) := by decide +kernel
theorem d_X12_readsBundle_18 : decode cX12_readsBundle 18 = .ok (.iconst 1, 1) := by decide +kernel
theorem d_X12_readsBundle_19 : decode cX12_readsBundle 19 = .ok (.if_icmp .ne 61, 3) := by decide +kernel
theorem d_X12_readsBundle_22 : decode cX12_readsBundle 22 = .ok (.aload_n 0, 1) := by decide +kernel
theorem d_X12_readsBundle_23 : decode cX12_readsBundle 23 = .ok (.invokevirtual 431, 3) := by decide +kernel
theorem d_X12_readsBundle_26 : decode cX12_readsBundle 26 = .ok (.ifCond .ne 5, 3) := by decide +kernel
theorem d_X12_readsBundle_29 : decode cX12_readsBundle 29 = .ok (.iconst 0, 1) := by decide +kernel
theorem d_X12_readsBundle_30 : decode cX12_readsBundle 30 = .ok (.ireturn, 1) := by decide +kernel
theorem d_X12_readsBundle_31 : decode cX12_readsBundle 31 = .ok (.aload_n 0, 1) := by decide +kernel
theorem d_X12_readsBundle_32 : decode cX12_readsBundle 32 = .ok (.getfield 410, 3) := by decide +kernel
theorem d_X12_readsBundle_35 : decode cX12_readsBundle 35 = .ok (.ifCond .le 27, 3) := by decide +kernel
theorem d_X12_readsBundle_38 : decode cX12_readsBundle 38 = .ok (.aload_n 0, 1) := by decide +kernel
theorem d_X12_readsBundle_39 : decode cX12_readsBundle 39 = .ok (.getfield 92, 3) := by decide +kernel
theorem d_X12_readsBundle_42 : decode cX12_readsBundle 42 = .ok (.aload_n 0, 1) := by decide +kernel
theorem d_X12_readsBundle_43 : decode cX12_readsBundle 43 = .ok (.getfield 410, 3) := by decide +kernel
theorem d_X12_readsBundle_46 : decode cX12_readsBundle 46 = .ok (.iconst 1, 1) := by decide +kernel
theorem d_X12_readsBundle_47 : decode cX12_readsBundle 47 = .ok (.isub, 1) := by decide +kernel
theorem d_X12_readsBundle_48 : decode cX12_readsBundle 48 = .ok (.iaload, 1) := by decide +kernel
theorem d_X12_readsBundle_49 : decode cX12_readsBundle 49 = .ok (.aload_n 0, 1) := by decide +kernel
theorem d_X12_readsBundle_50 : decode cX12_readsBundle 50 = .ok (.getfield 417, 3) := by decide +kernel
theorem d_X12_readsBundle_53 : decode cX12_readsBundle 53 = .ok (.iconst 1, 1) := by decide +kernel
theorem d_X12_readsBundle_54 : decode cX12_readsBundle 54 = .ok (.isub, 1) := by decide +kernel
theorem d_X12_readsBundle_55 : decode cX12_readsBundle 55 = .ok (.if_icmp .ne 7, 3) := by decide +kernel
theorem d_X12_readsBundle_58 : decode cX12_readsBundle 58 = .ok (.iconst 1, 1) := by decide +kernel
theorem d_X12_readsBundle_59 : decode cX12_readsBundle 59 = .ok (.goto 4, 3) := by decide +kernel
theorem d_X12_readsBundle_62 : decode cX12_readsBundle 62 = .ok (.iconst 0, 1) := by decide +kernel
theorem d_X12_readsBundle_63 : decode cX12_readsBundle 63 = .ok (.istore_n 2, 1) := by decide +kernel
theorem d_X12_readsBundle_64 : decode cX12_readsBundle 64 = .ok (.iload_n 2, 1) := by decide +kernel
theorem d_X12_readsBundle_65 : decode cX12_readsBundle 65 = .ok (.ifCond .eq 7, 3) := by decide +kernel
theorem d_X12_readsBundle_68 : decode cX12_readsBundle 68 = .ok (.iconst 1, 1) := by decide +kernel
theorem d_X12_readsBundle_69 : decode cX12_readsBundle 69 = .ok (.goto 7, 3) := by decide +kernel
theorem d_X12_readsBundle_72 : decode cX12_readsBundle 72 = .ok (.aload_n 0, 1) := by decide +kernel
theorem d_X12_readsBundle_73 : decode cX12_readsBundle 73 = .ok (.invokevirtual 434, 3) := by decide +kernel
theorem d_X12_readsBundle_76 : decode cX12_readsBundle 76 = .ok (.istore_n 1, 1) := by decide +kernel
theorem d_X12_readsBundle_77 : decode cX12_readsBundle 77 = .ok (.goto (-60), 3) := by decide +kernel
theorem d_X12_readsBundle_80 : decode cX12_readsBundle 80 = .ok (.iload_n 1, 1) := by decide +kernel
theorem d_X12_readsBundle_81 : decode cX12_readsBundle 81 = .ok (.ifCond .eq 15, 3) := by decide +kernel
theorem d_X12_readsBundle_84 : decode cX12_readsBundle 84 = .ok (.aload_n 0, 1) := by decide +kernel
theorem d_X12_readsBundle_85 : decode cX12_readsBundle 85 = .ok (.iconst 0, 1) := by decide +kernel
theorem d_X12_readsBundle_86 : decode cX12_readsBundle 86 = .ok (.aload_n 0, 1) := by decide +kernel
theorem d_X12_readsBundle_87 : decode cX12_readsBundle 87 = .ok (.getfield 144, 3) := by decide +kernel
theorem d_X12_readsBundle_90 : decode cX12_readsBundle 90 = .ok (.invokevirtual 165, 3) := by decide +kernel
theorem d_X12_readsBundle_93 : decode cX12_readsBundle 93 = .ok (.ifCond .eq 7, 3) := by decide +kernel
theorem d_X12_readsBundle_96 : decode cX12_readsBundle 96 = .ok (.iconst 1, 1) := by decide +kernel
theorem d_X12_readsBundle_97 : decode cX12_readsBundle 97 = .ok (.goto 4, 3) := by decide +kernel
theorem d_X12_readsBundle_100 : decode cX12_readsBundle 100 = .ok (.iconst 0, 1) := by decide +kernel
theorem d_X12_readsBundle_101 : decode cX12_readsBundle 101 = .ok (.ireturn, 1) := by decide +kernel
def f_X12_readsBundle_76 (k17 : Int32 → Mem → Option (Int32 × Mem)) (s0 : Int32) (S : Mem) : Option (Int32 × Mem) := (k17 s0 S)
set_option maxRecDepth 20000 in
theorem t_X12_readsBundle_76 {X : MC} {Γ : GG} (C : CX X Γ cX12_readsBundle 3 "TickPoolsModel" 5 114) (hr : X.2.2.2.2.2.2.2.2.1.sig.returnType = some .boolean) {k17 : Int32 → Mem → Option (Int32 × Mem)} {q : Int32 × Mem} (hk17 : ∀ (v1 : Int32) (S : Mem), k17 v1 S = some q → ZZ X Γ 3 (QQ X Γ (some (aI q.1)) q.2) S 17 [(0, aR 20), (1, aI v1)] []) (s0 : Int32) (S : Mem) (hf : f_X12_readsBundle_76 k17 s0 S = some q) : ZZ X Γ 3 (QQ X Γ (some (aI q.1)) q.2) S 76 [(0, aR 20)] [aI s0] := by
  unfold f_X12_readsBundle_76 at hf
  refine z_istore_n (lv' := [(1, aI s0), (0, aR 20)]) C d_X12_readsBundle_76 (by decide) rfl ?_
  refine z_goto (tgt := 17) C d_X12_readsBundle_77 (by decide) ?_
  exact z_sub [1, 0] rfl (hk17 _ _ hf)
def f_X12_readsBundle_63 (k17 : Int32 → Mem → Option (Int32 × Mem)) (s0 : Int32) (S : Mem) : Option (Int32 × Mem) := (if s0 = 0 then ((f_X12_goesOn S).bind fun q73 => (f_X12_readsBundle_76 k17 q73.1 q73.2)) else (f_X12_readsBundle_76 k17 1 S))
set_option maxRecDepth 20000 in
theorem t_X12_readsBundle_63 {X : MC} {Γ : GG} (C : CX X Γ cX12_readsBundle 3 "TickPoolsModel" 5 114) (hr : X.2.2.2.2.2.2.2.2.1.sig.returnType = some .boolean) {k17 : Int32 → Mem → Option (Int32 × Mem)} {q : Int32 × Mem} (hk17 : ∀ (v1 : Int32) (S : Mem), k17 v1 S = some q → ZZ X Γ 3 (QQ X Γ (some (aI q.1)) q.2) S 17 [(0, aR 20), (1, aI v1)] []) (s0 : Int32) (S : Mem) (hf : f_X12_readsBundle_63 k17 s0 S = some q) : ZZ X Γ 3 (QQ X Γ (some (aI q.1)) q.2) S 63 [(0, aR 20)] [aI s0] := by
  unfold f_X12_readsBundle_63 at hf
  refine z_istore_n (lv' := [(2, aI s0), (0, aR 20)]) C d_X12_readsBundle_63 (by decide) rfl ?_
  refine z_iload_n (j := 0) C d_X12_readsBundle_64 rfl ?_
  refine z_if_eq (tgt := 72) C d_X12_readsBundle_65 (by decide) hf (fun c65 hf => ?_) (fun c65 hf => ?_)
  · refine z_aload_n (j := 1) C d_X12_readsBundle_72 rfl ?_
    obtain ⟨q73, hF, hf⟩ := bd hf
    refine z_callV1 (rest := []) C [] rfl (by decide) rfl rfl k_X12_goesOn tw_1709 ⟨by decide, by decide⟩ (Nat.le_of_ble_eq_true rfl) d_X12_readsBundle_73 (c_X12_goesOn C.inj hF) rfl ?_
    exact z_sub [1] rfl (t_X12_readsBundle_76 C hr hk17 _ _ hf)
  · refine z_iconst (v := 1) C d_X12_readsBundle_68 (by decide) ?_
    refine z_goto (tgt := 76) C d_X12_readsBundle_69 (by decide) ?_
    exact z_sub [1] rfl (t_X12_readsBundle_76 C hr hk17 _ _ hf)
def f_X12_readsBundle_62 (k17 : Int32 → Mem → Option (Int32 × Mem)) (S : Mem) : Option (Int32 × Mem) := (f_X12_readsBundle_63 k17 0 S)
set_option maxRecDepth 20000 in
theorem t_X12_readsBundle_62 {X : MC} {Γ : GG} (C : CX X Γ cX12_readsBundle 3 "TickPoolsModel" 5 114) (hr : X.2.2.2.2.2.2.2.2.1.sig.returnType = some .boolean) {k17 : Int32 → Mem → Option (Int32 × Mem)} {q : Int32 × Mem} (hk17 : ∀ (v1 : Int32) (S : Mem), k17 v1 S = some q → ZZ X Γ 3 (QQ X Γ (some (aI q.1)) q.2) S 17 [(0, aR 20), (1, aI v1)] []) (S : Mem) (hf : f_X12_readsBundle_62 k17 S = some q) : ZZ X Γ 3 (QQ X Γ (some (aI q.1)) q.2) S 62 [(0, aR 20)] [] := by
  unfold f_X12_readsBundle_62 at hf
  refine z_iconst (v := 0) C d_X12_readsBundle_62 (by decide) ?_
  exact z_sub [0] rfl (t_X12_readsBundle_63 C hr hk17 _ _ hf)
def f_X12_readsBundle_101 (s0 : Int32) (S : Mem) : Option (Int32 × Mem) := (if isB s0 = true then (some (s0, S)) else none)
set_option maxRecDepth 20000 in
theorem t_X12_readsBundle_101 {X : MC} {Γ : GG} (C : CX X Γ cX12_readsBundle 3 "TickPoolsModel" 5 114) (hr : X.2.2.2.2.2.2.2.2.1.sig.returnType = some .boolean) {q : Int32 × Mem} (s0 : Int32) (S : Mem) (hf : f_X12_readsBundle_101 s0 S = some q) : ZZ X Γ 3 (QQ X Γ (some (aI q.1)) q.2) S 101 [] [aI s0] := by
  unfold f_X12_readsBundle_101 at hf
  obtain ⟨hb101_0, hf⟩ := gd hf
  exact r_i C hr (isB_nar hb101_0).1 d_X12_readsBundle_101 hf
def f_X12_readsBundle_96 (S : Mem) : Option (Int32 × Mem) := (f_X12_readsBundle_101  1 S)
set_option maxRecDepth 20000 in
theorem t_X12_readsBundle_96 {X : MC} {Γ : GG} (C : CX X Γ cX12_readsBundle 3 "TickPoolsModel" 5 114) (hr : X.2.2.2.2.2.2.2.2.1.sig.returnType = some .boolean) {q : Int32 × Mem} (S : Mem) (hf : f_X12_readsBundle_96 S = some q) : ZZ X Γ 3 (QQ X Γ (some (aI q.1)) q.2) S 96 [] [] := by
  unfold f_X12_readsBundle_96 at hf
  refine z_iconst (v := 1) C d_X12_readsBundle_96 (by decide) ?_
  refine z_goto (tgt := 101) C d_X12_readsBundle_97 (by decide) ?_
  exact z_sub [] rfl (t_X12_readsBundle_101 C hr  _ _ hf)
def f_X12_readsBundle_17B (k17 : Int32 → Mem → Option (Int32 × Mem)) (v1 : Int32) (S : Mem) : Option (Int32 × Mem) := (if v1 = 1 then ((f_X12_readsStep S).bind fun q23 => (if q23.1 = 0 then (some (0, q23.2)) else (if (gI q23.2 20 42) ≤ 0 then (f_X12_readsBundle_62 k17 q23.2) else (if inb ((gI q23.2 20 42) - 1) 4 = true then (if (gI q23.2 34 ((((gI q23.2 20 42) - 1) : Int32).toNatClampNeg)) = ((gI q23.2 20 34) - 1) then (f_X12_readsBundle_63 k17 1 q23.2) else (f_X12_readsBundle_62 k17 q23.2)) else none)))) else (if v1 = 0 then (f_X12_readsBundle_96  S) else ((f_X12_fails 0 (gI S 20 9) S).bind fun q90 => (if q90.1 = 0 then (f_X12_readsBundle_101  0 q90.2) else (f_X12_readsBundle_96  q90.2)))))
set_option maxRecDepth 20000 in
theorem t_X12_readsBundle_17B {X : MC} {Γ : GG} (C : CX X Γ cX12_readsBundle 3 "TickPoolsModel" 5 114) (hr : X.2.2.2.2.2.2.2.2.1.sig.returnType = some .boolean) {k17 : Int32 → Mem → Option (Int32 × Mem)} {q : Int32 × Mem} (hk17 : ∀ (v1 : Int32) (S : Mem), k17 v1 S = some q → ZZ X Γ 3 (QQ X Γ (some (aI q.1)) q.2) S 17 [(0, aR 20), (1, aI v1)] []) (v1 : Int32) (S : Mem) (hf : f_X12_readsBundle_17B k17 v1 S = some q) : ZZ X Γ 3 (QQ X Γ (some (aI q.1)) q.2) S 17 [(0, aR 20), (1, aI v1)] [] := by
  unfold f_X12_readsBundle_17B at hf
  refine z_iload_n (j := 1) C d_X12_readsBundle_17 rfl ?_
  refine z_iconst (v := 1) C d_X12_readsBundle_18 (by decide) ?_
  refine z_icmp_ne (tgt := 80) C d_X12_readsBundle_19 (by decide) hf (fun c19 hf => ?_) (fun c19 hf => ?_)
  · refine z_iload_n (j := 1) C d_X12_readsBundle_80 rfl ?_
    refine z_if_eq (tgt := 96) C d_X12_readsBundle_81 (by decide) hf (fun c81 hf => ?_) (fun c81 hf => ?_)
    · exact z_sub [] rfl (t_X12_readsBundle_96 C hr  _ hf)
    · refine z_aload_n (j := 0) C d_X12_readsBundle_84 rfl ?_
      refine z_iconst (v := 0) C d_X12_readsBundle_85 (by decide) ?_
      refine z_aload_n (j := 0) C d_X12_readsBundle_86 rfl ?_
      refine zg_X12_at C rfl tw_1220 d_X12_readsBundle_87 ?_
      obtain ⟨q90, hF, hf⟩ := bd hf
      refine z_callV1 (rest := []) C [aI 0, aI (gI S 20 9)] rfl (by decide) rfl rfl k_X12_fails tw_1415 ⟨by decide, by decide⟩ (Nat.le_of_ble_eq_true rfl) d_X12_readsBundle_90 (c_X12_fails C.inj hF) rfl ?_
      refine z_if_eq (tgt := 100) C d_X12_readsBundle_93 (by decide) hf (fun c93 hf => ?_) (fun c93 hf => ?_)
      · refine z_iconst (v := 0) C d_X12_readsBundle_100 (by decide) ?_
        exact z_sub [] rfl (t_X12_readsBundle_101 C hr  _ _ hf)
      · exact z_sub [] rfl (t_X12_readsBundle_96 C hr  _ hf)
  · refine z_aload_n (j := 0) C d_X12_readsBundle_22 rfl ?_
    obtain ⟨q23, hF, hf⟩ := bd hf
    refine z_callV1 (rest := []) C [] rfl (by decide) rfl rfl k_X12_readsStep tw_1689 ⟨by decide, by decide⟩ (Nat.le_of_ble_eq_true rfl) d_X12_readsBundle_23 (c_X12_readsStep C.inj hF) rfl ?_
    refine z_if_ne (tgt := 31) C d_X12_readsBundle_26 (by decide) hf (fun c26 hf => ?_) (fun c26 hf => ?_)
    · refine z_aload_n (j := 0) C d_X12_readsBundle_31 rfl ?_
      refine zg_X12_opened C rfl tw_1253 d_X12_readsBundle_32 ?_
      refine z_if_le (tgt := 62) C d_X12_readsBundle_35 (by decide) hf (fun c35 hf => ?_) (fun c35 hf => ?_)
      · exact z_sub [0] rfl (t_X12_readsBundle_62 C hr hk17 _ hf)
      · refine z_aload_n (j := 0) C d_X12_readsBundle_38 rfl ?_
        refine zg_X12_open C rfl tw_1252 d_X12_readsBundle_39 ?_
        refine z_aload_n (j := 0) C d_X12_readsBundle_42 rfl ?_
        refine zg_X12_opened C rfl tw_1253 d_X12_readsBundle_43 ?_
        refine z_iconst (v := 1) C d_X12_readsBundle_46 (by decide) ?_
        refine z_isub C d_X12_readsBundle_47 ?_
        obtain ⟨hi48_0, hf⟩ := gd hf
        refine z_iald C rfl hi48_0 d_X12_readsBundle_48 ?_
        refine z_aload_n (j := 0) C d_X12_readsBundle_49 rfl ?_
        refine zg_X12_stepMany C rfl tw_1245 d_X12_readsBundle_50 ?_
        refine z_iconst (v := 1) C d_X12_readsBundle_53 (by decide) ?_
        refine z_isub C d_X12_readsBundle_54 ?_
        refine z_icmp_ne (tgt := 62) C d_X12_readsBundle_55 (by decide) hf (fun c55 hf => ?_) (fun c55 hf => ?_)
        · exact z_sub [0] rfl (t_X12_readsBundle_62 C hr hk17 _ hf)
        · refine z_iconst (v := 1) C d_X12_readsBundle_58 (by decide) ?_
          refine z_goto (tgt := 63) C d_X12_readsBundle_59 (by decide) ?_
          exact z_sub [0] rfl (t_X12_readsBundle_63 C hr hk17 _ _ hf)
    · refine z_iconst (v := 0) C d_X12_readsBundle_29 (by decide) ?_
      exact r_i C hr (by decide) d_X12_readsBundle_30 hf
def f_X12_readsBundle_17 : Nat → Int32 → Mem → Option (Int32 × Mem)
  | 0 => fun _ _ => none
  | n + 1 => f_X12_readsBundle_17B (f_X12_readsBundle_17 n)
theorem t_X12_readsBundle_17 {X : MC} {Γ : GG} (C : CX X Γ cX12_readsBundle 3 "TickPoolsModel" 5 114) (hr : X.2.2.2.2.2.2.2.2.1.sig.returnType = some .boolean) {q : Int32 × Mem} : ∀ (n : Nat) (v1 : Int32) (S : Mem) (hf : f_X12_readsBundle_17 n v1 S = some q), ZZ X Γ 3 (QQ X Γ (some (aI q.1)) q.2) S 17 [(0, aR 20), (1, aI v1)] []
  | 0, _, _, hf => nomatch (show (none : Option (Int32 × Mem)) = some q from hf)
  | n + 1, v1, S, hf => t_X12_readsBundle_17B C hr (t_X12_readsBundle_17 C hr n) v1 S hf
def f_X12_readsBundle_15 (S : Mem) : Option (Int32 × Mem) := (f_X12_readsBundle_17  100000 1 S)
set_option maxRecDepth 20000 in
theorem t_X12_readsBundle_15 {X : MC} {Γ : GG} (C : CX X Γ cX12_readsBundle 3 "TickPoolsModel" 5 114) (hr : X.2.2.2.2.2.2.2.2.1.sig.returnType = some .boolean) {q : Int32 × Mem} (S : Mem) (hf : f_X12_readsBundle_15 S = some q) : ZZ X Γ 3 (QQ X Γ (some (aI q.1)) q.2) S 15 [(0, aR 20)] [] := by
  unfold f_X12_readsBundle_15 at hf
  refine z_iconst (v := 1) C d_X12_readsBundle_15 (by decide) ?_
  refine z_istore_n (lv' := [(1, aI 1), (0, aR 20)]) C d_X12_readsBundle_16 (by decide) rfl ?_
  exact z_sub [1, 0] rfl (t_X12_readsBundle_17 C hr  100000 _ _ hf)
/-- TickPoolsModel.readsBundle()Z -/
def f_X12_readsBundle (S : Mem) : Option (Int32 × Mem) := (f_X12_readsBundle_15  (sI (sI (sI S 20 9 0) 20 34 0) 20 42 0))
set_option maxRecDepth 20000 in
theorem c_X12_readsBundle {l : Launch} {Γ : GG} (hI : Inj Γ) {S : Mem} {q : Int32 × Mem} (hf : f_X12_readsBundle S = some q) : MM l Γ yX12_readsBundle cX12_readsBundle 3 (some .boolean) 5 114 [aR 20] S (some (aI q.1)) q.2 := by
  refine met_of hI "TickPoolsModel" rfl (by decide +kernel) (Nat.le_of_ble_eq_true rfl) (fun X hX C hr => ?_)
  unfold f_X12_readsBundle at hf
  show ZZ X Γ 3 _ S 0 [(0, aR 20)] []
  refine z_aload_n (j := 0) C d_X12_readsBundle_0 rfl ?_
  refine z_iconst (v := 0) C d_X12_readsBundle_1 (by decide) ?_
  refine zp_X12_at C rfl tw_1220 d_X12_readsBundle_2 ?_
  refine z_aload_n (j := 0) C d_X12_readsBundle_5 rfl ?_
  refine z_iconst (v := 0) C d_X12_readsBundle_6 (by decide) ?_
  refine zp_X12_stepMany C rfl tw_1245 d_X12_readsBundle_7 ?_
  refine z_aload_n (j := 0) C d_X12_readsBundle_10 rfl ?_
  refine z_iconst (v := 0) C d_X12_readsBundle_11 (by decide) ?_
  refine zp_X12_opened C rfl tw_1253 d_X12_readsBundle_12 ?_
  exact z_sub [0] rfl (t_X12_readsBundle_15 C hr  _ hf)
theorem d_X12_isOpen_0 : decode cX12_isOpen 0 = .ok (.aload_n 0, 1) := by decide +kernel
theorem d_X12_isOpen_1 : decode cX12_isOpen 1 = .ok (.iload_n 1, 1) := by decide +kernel
theorem d_X12_isOpen_2 : decode cX12_isOpen 2 = .ok (.invokevirtual 284, 3) := by decide +kernel
theorem d_X12_isOpen_5 : decode cX12_isOpen 5 = .ok (.ifCond .eq 18, 3) := by decide +kernel
theorem d_X12_isOpen_8 : decode cX12_isOpen 8 = .ok (.aload_n 0, 1) := by decide +kernel
theorem d_X12_isOpen_9 : decode cX12_isOpen 9 = .ok (.getfield 437, 3) := by decide +kernel
theorem d_X12_isOpen_12 : decode cX12_isOpen 12 = .ok (.iload_n 1, 1) := by decide +kernel
theorem d_X12_isOpen_13 : decode cX12_isOpen 13 = .ok (.ishr, 1) := by decide +kernel
theorem d_X12_isOpen_14 : decode cX12_isOpen 14 = .ok (.iconst 1, 1) := by decide +kernel
theorem d_X12_isOpen_15 : decode cX12_isOpen 15 = .ok (.iand, 1) := by decide +kernel
theorem d_X12_isOpen_16 : decode cX12_isOpen 16 = .ok (.ifCond .ne 7, 3) := by decide +kernel
theorem d_X12_isOpen_19 : decode cX12_isOpen 19 = .ok (.iconst 1, 1) := by decide +kernel
theorem d_X12_isOpen_20 : decode cX12_isOpen 20 = .ok (.goto 4, 3) := by decide +kernel
theorem d_X12_isOpen_23 : decode cX12_isOpen 23 = .ok (.iconst 0, 1) := by decide +kernel
theorem d_X12_isOpen_24 : decode cX12_isOpen 24 = .ok (.ireturn, 1) := by decide +kernel
def f_X12_isOpen_24 (s0 : Int32) (S : Mem) : Option (Int32 × Mem) := (if isB s0 = true then (some (s0, S)) else none)
set_option maxRecDepth 20000 in
theorem t_X12_isOpen_24 {X : MC} {Γ : GG} (C : CX X Γ cX12_isOpen 2 "TickPoolsModel" 1 21) (hr : X.2.2.2.2.2.2.2.2.1.sig.returnType = some .boolean) {q : Int32 × Mem} (s0 : Int32) (S : Mem) (hf : f_X12_isOpen_24 s0 S = some q) : ZZ X Γ 2 (QQ X Γ (some (aI q.1)) q.2) S 24 [] [aI s0] := by
  unfold f_X12_isOpen_24 at hf
  obtain ⟨hb24_0, hf⟩ := gd hf
  exact r_i C hr (isB_nar hb24_0).1 d_X12_isOpen_24 hf
def f_X12_isOpen_23 (S : Mem) : Option (Int32 × Mem) := (f_X12_isOpen_24  0 S)
set_option maxRecDepth 20000 in
theorem t_X12_isOpen_23 {X : MC} {Γ : GG} (C : CX X Γ cX12_isOpen 2 "TickPoolsModel" 1 21) (hr : X.2.2.2.2.2.2.2.2.1.sig.returnType = some .boolean) {q : Int32 × Mem} (S : Mem) (hf : f_X12_isOpen_23 S = some q) : ZZ X Γ 2 (QQ X Γ (some (aI q.1)) q.2) S 23 [] [] := by
  unfold f_X12_isOpen_23 at hf
  refine z_iconst (v := 0) C d_X12_isOpen_23 (by decide) ?_
  exact z_sub [] rfl (t_X12_isOpen_24 C hr  _ _ hf)
/-- TickPoolsModel.isOpen(I)Z -/
def f_X12_isOpen (p1 : Int32) (S : Mem) : Option (Int32 × Mem) := ((f_X12_isPool p1 S).bind fun q2 => (if q2.1 = 0 then (f_X12_isOpen_23  q2.2) else (if (((gI q2.2 20 46) >>> (p1 &&& 31)) &&& 1) = 0 then (f_X12_isOpen_24  1 q2.2) else (f_X12_isOpen_23  q2.2))))
set_option maxRecDepth 20000 in
theorem c_X12_isOpen {l : Launch} {Γ : GG} (hI : Inj Γ) {p1 : Int32} {S : Mem} {q : Int32 × Mem} (hf : f_X12_isOpen p1 S = some q) : MM l Γ yX12_isOpen cX12_isOpen 2 (some .boolean) 1 21 [aR 20, aI p1] S (some (aI q.1)) q.2 := by
  refine met_of hI "TickPoolsModel" rfl (by decide +kernel) (Nat.le_of_ble_eq_true rfl) (fun X hX C hr => ?_)
  unfold f_X12_isOpen at hf
  show ZZ X Γ 2 _ S 0 [(0, aR 20), (1, aI p1)] []
  refine z_aload_n (j := 0) C d_X12_isOpen_0 rfl ?_
  refine z_iload_n (j := 1) C d_X12_isOpen_1 rfl ?_
  obtain ⟨q2, hF, hf⟩ := bd hf
  refine z_callV1 (rest := []) C [aI p1] rfl (by decide) rfl rfl k_X12_isPool tw_1471 ⟨by decide, by decide⟩ (Nat.le_of_ble_eq_true rfl) d_X12_isOpen_2 (c_X12_isPool C.inj hF) rfl ?_
  refine z_if_eq (tgt := 23) C d_X12_isOpen_5 (by decide) hf (fun c5 hf => ?_) (fun c5 hf => ?_)
  · exact z_sub [] rfl (t_X12_isOpen_23 C hr  _ hf)
  · refine z_aload_n (j := 0) C d_X12_isOpen_8 rfl ?_
    refine zg_X12_locked C rfl tw_1257 d_X12_isOpen_9 ?_
    refine z_iload_n (j := 1) C d_X12_isOpen_12 rfl ?_
    refine z_ishr C d_X12_isOpen_13 ?_
    refine z_iconst (v := 1) C d_X12_isOpen_14 (by decide) ?_
    refine z_iand C d_X12_isOpen_15 ?_
    refine z_if_ne (tgt := 23) C d_X12_isOpen_16 (by decide) hf (fun c16 hf => ?_) (fun c16 hf => ?_)
    · exact z_sub [] rfl (t_X12_isOpen_23 C hr  _ hf)
    · refine z_iconst (v := 1) C d_X12_isOpen_19 (by decide) ?_
      refine z_goto (tgt := 24) C d_X12_isOpen_20 (by decide) ?_
      exact z_sub [] rfl (t_X12_isOpen_24 C hr  _ _ hf)
theorem d_X12_stops_0 : decode cX12_stops 0 = .ok (.aload_n 0, 1) := by decide +kernel
theorem d_X12_stops_1 : decode cX12_stops 1 = .ok (.iload_n 1, 1) := by decide +kernel
theorem d_X12_stops_2 : decode cX12_stops 2 = .ok (.aload_n 0, 1) := by decide +kernel
theorem d_X12_stops_3 : decode cX12_stops 3 = .ok (.getfield 77, 3) := by decide +kernel
theorem d_X12_stops_6 : decode cX12_stops 6 = .ok (.iload_n 2, 1) := by decide +kernel
theorem d_X12_stops_7 : decode cX12_stops 7 = .ok (.iaload, 1) := by decide +kernel
theorem d_X12_stops_8 : decode cX12_stops 8 = .ok (.invokevirtual 165, 3) := by decide +kernel
theorem d_X12_stops_11 : decode cX12_stops 11 = .ok (.ireturn, 1) := by decide +kernel
/-- TickPoolsModel.stops(II)Z -/
def f_X12_stops (p1 : Int32) (p2 : Int32) (S : Mem) : Option (Int32 × Mem) := (if inb p2 40 = true then ((f_X12_fails p1 (gI S 29 ((p2 : Int32).toNatClampNeg)) S).bind fun q8 => (if isB q8.1 = true then (some (q8.1, q8.2)) else none)) else none)
set_option maxRecDepth 20000 in
theorem c_X12_stops {l : Launch} {Γ : GG} (hI : Inj Γ) {p1 : Int32} {p2 : Int32} {S : Mem} {q : Int32 × Mem} (hf : f_X12_stops p1 p2 S = some q) : MM l Γ yX12_stops cX12_stops 3 (some .boolean) 1 22 [aR 20, aI p1, aI p2] S (some (aI q.1)) q.2 := by
  refine met_of hI "TickPoolsModel" rfl (by decide +kernel) (Nat.le_of_ble_eq_true rfl) (fun X hX C hr => ?_)
  unfold f_X12_stops at hf
  show ZZ X Γ 3 _ S 0 [(0, aR 20), (1, aI p1), (2, aI p2)] []
  refine z_aload_n (j := 0) C d_X12_stops_0 rfl ?_
  refine z_iload_n (j := 1) C d_X12_stops_1 rfl ?_
  refine z_aload_n (j := 0) C d_X12_stops_2 rfl ?_
  refine zg_X12_placeOf C rfl tw_1247 d_X12_stops_3 ?_
  refine z_iload_n (j := 2) C d_X12_stops_6 rfl ?_
  obtain ⟨hi7_0, hf⟩ := gd hf
  refine z_iald C rfl hi7_0 d_X12_stops_7 ?_
  obtain ⟨q8, hF, hf⟩ := bd hf
  refine z_callV1 (rest := []) C [aI p1, aI (gI S 29 ((p2 : Int32).toNatClampNeg))] rfl (by decide) rfl rfl k_X12_fails tw_1415 ⟨by decide, by decide⟩ (Nat.le_of_ble_eq_true rfl) d_X12_stops_8 (c_X12_fails C.inj hF) rfl ?_
  obtain ⟨hb11_2, hf⟩ := gd hf
  exact r_i C hr (isB_nar hb11_2).1 d_X12_stops_11 hf
theorem d_X12_muchOf_0 : decode cX12_muchOf 0 = .ok (.aload_n 0, 1) := by decide +kernel
theorem d_X12_muchOf_1 : decode cX12_muchOf 1 = .ok (.getfield 80, 3) := by decide +kernel
theorem d_X12_muchOf_4 : decode cX12_muchOf 4 = .ok (.iconst 4, 1) := by decide +kernel
theorem d_X12_muchOf_5 : decode cX12_muchOf 5 = .ok (.iload_n 1, 1) := by decide +kernel
theorem d_X12_muchOf_6 : decode cX12_muchOf 6 = .ok (.imul, 1) := by decide +kernel
theorem d_X12_muchOf_7 : decode cX12_muchOf 7 = .ok (.iaload, 1) := by decide +kernel
theorem d_X12_muchOf_8 : decode cX12_muchOf 8 = .ok (.istore_n 2, 1) := by decide +kernel
theorem d_X12_muchOf_9 : decode cX12_muchOf 9 = .ok (.aload_n 0, 1) := by decide +kernel
theorem d_X12_muchOf_10 : decode cX12_muchOf 10 = .ok (.getfield 80, 3) := by decide +kernel
theorem d_X12_muchOf_13 : decode cX12_muchOf 13 = .ok (.iconst 4, 1) := by decide +kernel
theorem d_X12_muchOf_14 : decode cX12_muchOf 14 = .ok (.iload_n 1, 1) := by decide +kernel
theorem d_X12_muchOf_15 : decode cX12_muchOf 15 = .ok (.imul, 1) := by decide +kernel
theorem d_X12_muchOf_16 : decode cX12_muchOf 16 = .ok (.iconst 1, 1) := by decide +kernel
theorem d_X12_muchOf_17 : decode cX12_muchOf 17 = .ok (.iadd, 1) := by decide +kernel
theorem d_X12_muchOf_18 : decode cX12_muchOf 18 = .ok (.iaload, 1) := by decide +kernel
theorem d_X12_muchOf_19 : decode cX12_muchOf 19 = .ok (.istore_n 3, 1) := by decide +kernel
theorem d_X12_muchOf_20 : decode cX12_muchOf 20 = .ok (.aload_n 0, 1) := by decide +kernel
theorem d_X12_muchOf_21 : decode cX12_muchOf 21 = .ok (.getfield 83, 3) := by decide +kernel
theorem d_X12_muchOf_24 : decode cX12_muchOf 24 = .ok (.iload_n 1, 1) := by decide +kernel
theorem d_X12_muchOf_25 : decode cX12_muchOf 25 = .ok (.iaload, 1) := by decide +kernel
theorem d_X12_muchOf_26 : decode cX12_muchOf 26 = .ok (.ifCond .ne 15, 3) := by decide +kernel
theorem d_X12_muchOf_29 : decode cX12_muchOf 29 = .ok (.aload_n 0, 1) := by decide +kernel
theorem d_X12_muchOf_30 : decode cX12_muchOf 30 = .ok (.getfield 80, 3) := by decide +kernel
theorem d_X12_muchOf_33 : decode cX12_muchOf 33 = .ok (.iconst 4, 1) := by decide +kernel
theorem d_X12_muchOf_34 : decode cX12_muchOf 34 = .ok (.iload_n 1, 1) := by decide +kernel
theorem d_X12_muchOf_35 : decode cX12_muchOf 35 = .ok (.imul, 1) := by decide +kernel
theorem d_X12_muchOf_36 : decode cX12_muchOf 36 = .ok (.iconst 2, 1) := by decide +kernel
theorem d_X12_muchOf_37 : decode cX12_muchOf 37 = .ok (.iadd, 1) := by decide +kernel
theorem d_X12_muchOf_38 : decode cX12_muchOf 38 = .ok (.iaload, 1) := by decide +kernel
theorem d_X12_muchOf_39 : decode cX12_muchOf 39 = .ok (.i2l, 1) := by decide +kernel
theorem d_X12_muchOf_40 : decode cX12_muchOf 40 = .ok (.lreturn, 1) := by decide +kernel
theorem d_X12_muchOf_41 : decode cX12_muchOf 41 = .ok (.aload_n 0, 1) := by decide +kernel
theorem d_X12_muchOf_42 : decode cX12_muchOf 42 = .ok (.getfield 83, 3) := by decide +kernel
theorem d_X12_muchOf_45 : decode cX12_muchOf 45 = .ok (.iload_n 1, 1) := by decide +kernel
theorem d_X12_muchOf_46 : decode cX12_muchOf 46 = .ok (.iaload, 1) := by decide +kernel
theorem d_X12_muchOf_47 : decode cX12_muchOf 47 = .ok (.iconst 2, 1) := by decide +kernel
theorem d_X12_muchOf_48 : decode cX12_muchOf 48 = .ok (.if_icmp .ne 8, 3) := by decide +kernel
theorem d_X12_muchOf_51 : decode cX12_muchOf 51 = .ok (.aload_n 0, 1) := by decide +kernel
theorem d_X12_muchOf_52 : decode cX12_muchOf 52 = .ok (.getfield 440, 3) := by decide +kernel
theorem d_X12_muchOf_55 : decode cX12_muchOf 55 = .ok (.lreturn, 1) := by decide +kernel
theorem d_X12_muchOf_56 : decode cX12_muchOf 56 = .ok (.aload_n 0, 1) := by decide +kernel
theorem d_X12_muchOf_57 : decode cX12_muchOf 57 = .ok (.getfield 74, 3) := by decide +kernel
theorem d_X12_muchOf_60 : decode cX12_muchOf 60 = .ok (.iload_n 1, 1) := by decide +kernel
theorem d_X12_muchOf_61 : decode cX12_muchOf 61 = .ok (.iaload, 1) := by decide +kernel
theorem d_X12_muchOf_62 : decode cX12_muchOf 62 = .ok (.ifCond .ne 18, 3) := by decide +kernel
theorem d_X12_muchOf_65 : decode cX12_muchOf 65 = .ok (.aload_n 0, 1) := by decide +kernel
theorem d_X12_muchOf_66 : decode cX12_muchOf 66 = .ok (.aload_n 0, 1) := by decide +kernel
theorem d_X12_muchOf_67 : decode cX12_muchOf 67 = .ok (.getfield 443, 3) := by decide +kernel
theorem d_X12_muchOf_70 : decode cX12_muchOf 70 = .ok (.aload_n 0, 1) := by decide +kernel
theorem d_X12_muchOf_71 : decode cX12_muchOf 71 = .ok (.iload_n 2, 1) := by decide +kernel
theorem d_X12_muchOf_72 : decode cX12_muchOf 72 = .ok (.iload_n 3, 1) := by decide +kernel
theorem d_X12_muchOf_73 : decode cX12_muchOf 73 = .ok (.invokevirtual 256, 3) := by decide +kernel
theorem d_X12_muchOf_76 : decode cX12_muchOf 76 = .ok (.invokevirtual 300, 3) := by decide +kernel
theorem d_X12_muchOf_79 : decode cX12_muchOf 79 = .ok (.lreturn, 1) := by decide +kernel
theorem d_X12_muchOf_80 : decode cX12_muchOf 80 = .ok (.aload_n 0, 1) := by decide +kernel
theorem d_X12_muchOf_81 : decode cX12_muchOf 81 = .ok (.iload_n 2, 1) := by decide +kernel
theorem d_X12_muchOf_82 : decode cX12_muchOf 82 = .ok (.iconst 2, 1) := by decide +kernel
theorem d_X12_muchOf_83 : decode cX12_muchOf 83 = .ok (.aload_n 0, 1) := by decide +kernel
theorem d_X12_muchOf_84 : decode cX12_muchOf 84 = .ok (.getfield 74, 3) := by decide +kernel
theorem d_X12_muchOf_87 : decode cX12_muchOf 87 = .ok (.iload_n 1, 1) := by decide +kernel
theorem d_X12_muchOf_88 : decode cX12_muchOf 88 = .ok (.iaload, 1) := by decide +kernel
theorem d_X12_muchOf_89 : decode cX12_muchOf 89 = .ok (.iconst 1, 1) := by decide +kernel
theorem d_X12_muchOf_90 : decode cX12_muchOf 90 = .ok (.if_icmp .ne 9, 3) := by decide +kernel
theorem d_X12_muchOf_93 : decode cX12_muchOf 93 = .ok (.iconst 1, 1) := by decide +kernel
theorem d_X12_muchOf_94 : decode cX12_muchOf 94 = .ok (.iload_n 3, 1) := by decide +kernel
theorem d_X12_muchOf_95 : decode cX12_muchOf 95 = .ok (.isub, 1) := by decide +kernel
theorem d_X12_muchOf_96 : decode cX12_muchOf 96 = .ok (.goto 4, 3) := by decide +kernel
theorem d_X12_muchOf_99 : decode cX12_muchOf 99 = .ok (.iload_n 3, 1) := by decide +kernel
theorem d_X12_muchOf_100 : decode cX12_muchOf 100 = .ok (.iadd, 1) := by decide +kernel
theorem d_X12_muchOf_101 : decode cX12_muchOf 101 = .ok (.invokevirtual 116, 3) := by decide +kernel
theorem d_X12_muchOf_104 : decode cX12_muchOf 104 = .ok (.lreturn, 1) := by decide +kernel
def f_X12_muchOf_100 (s0 : Int32) (s1 : Int32) (s2 : Int32) (S : Mem) : Option (Int64 × Mem) := ((f_X12_ofPool s2 (s1 + s0) S).bind fun q101 => (some (q101.1, q101.2)))
set_option maxRecDepth 20000 in
theorem t_X12_muchOf_100 {X : MC} {Γ : GG} (C : CX X Γ cX12_muchOf 4 "TickPoolsModel" 1 22) (hr : X.2.2.2.2.2.2.2.2.1.sig.returnType = some .long) {q : Int64 × Mem} (s0 : Int32) (s1 : Int32) (s2 : Int32) (S : Mem) (hf : f_X12_muchOf_100 s0 s1 s2 S = some q) : ZZ X Γ 4 (QQ X Γ (some (aJ q.1)) q.2) S 100 [] [aI s0, aI s1, aI s2, aR 20] := by
  unfold f_X12_muchOf_100 at hf
  refine z_iadd C d_X12_muchOf_100 ?_
  obtain ⟨q101, hF, hf⟩ := bd hf
  refine z_callV1 (rest := []) C [aI s2, aI (s1 + s0)] rfl (by decide) rfl rfl k_X12_ofPool tw_1503 ⟨by decide, by decide⟩ (Nat.le_of_ble_eq_true rfl) d_X12_muchOf_101 (c_X12_ofPool C.inj hF) rfl ?_
  exact r_l C hr d_X12_muchOf_104 hf
def f_X12_muchOf_20 (v1 : Int32) (v2 : Int32) (v3 : Int32) (S : Mem) : Option (Int64 × Mem) := (if inb v1 40 = true then (if (gI S 31 ((v1 : Int32).toNatClampNeg)) = 0 then (if inb ((4 * v1) + 2) 160 = true then (some ((((gI S 30 ((((4 * v1) + 2) : Int32).toNatClampNeg)) : Int32).toInt64), S)) else none) else (if inb v1 40 = true then (if (gI S 31 ((v1 : Int32).toNatClampNeg)) = 2 then (some ((gL S 20 45), S)) else (if inb v1 40 = true then (if (gI S 28 ((v1 : Int32).toNatClampNeg)) = 0 then ((f_X12_thingOf v2 v3 S).bind fun q73 => ((f_X12_inPurse (gI S 20 43) q73.1 q73.2).bind fun q76 => (some (q76.1, q76.2)))) else (if inb v1 40 = true then (if (gI S 28 ((v1 : Int32).toNatClampNeg)) = 1 then (f_X12_muchOf_100  (1 - v3) 2 v2 S) else (f_X12_muchOf_100  v3 2 v2 S)) else none)) else none)) else none)) else none)
set_option maxRecDepth 20000 in
theorem t_X12_muchOf_20 {X : MC} {Γ : GG} (C : CX X Γ cX12_muchOf 4 "TickPoolsModel" 1 22) (hr : X.2.2.2.2.2.2.2.2.1.sig.returnType = some .long) {q : Int64 × Mem} (v1 : Int32) (v2 : Int32) (v3 : Int32) (S : Mem) (hf : f_X12_muchOf_20 v1 v2 v3 S = some q) : ZZ X Γ 4 (QQ X Γ (some (aJ q.1)) q.2) S 20 [(0, aR 20), (1, aI v1), (2, aI v2), (3, aI v3)] [] := by
  unfold f_X12_muchOf_20 at hf
  refine z_aload_n (j := 0) C d_X12_muchOf_20 rfl ?_
  refine zg_X12_muchBy C rfl tw_1249 d_X12_muchOf_21 ?_
  refine z_iload_n (j := 1) C d_X12_muchOf_24 rfl ?_
  obtain ⟨hi25_0, hf⟩ := gd hf
  refine z_iald C rfl hi25_0 d_X12_muchOf_25 ?_
  refine z_if_ne (tgt := 41) C d_X12_muchOf_26 (by decide) hf (fun c26 hf => ?_) (fun c26 hf => ?_)
  · refine z_aload_n (j := 0) C d_X12_muchOf_41 rfl ?_
    refine zg_X12_muchBy C rfl tw_1249 d_X12_muchOf_42 ?_
    refine z_iload_n (j := 1) C d_X12_muchOf_45 rfl ?_
    obtain ⟨hi46_0, hf⟩ := gd hf
    refine z_iald C rfl hi46_0 d_X12_muchOf_46 ?_
    refine z_iconst (v := 2) C d_X12_muchOf_47 (by decide) ?_
    refine z_icmp_ne (tgt := 56) C d_X12_muchOf_48 (by decide) hf (fun c48 hf => ?_) (fun c48 hf => ?_)
    · refine z_aload_n (j := 0) C d_X12_muchOf_56 rfl ?_
      refine zg_X12_kind C rfl tw_1246 d_X12_muchOf_57 ?_
      refine z_iload_n (j := 1) C d_X12_muchOf_60 rfl ?_
      obtain ⟨hi61_0, hf⟩ := gd hf
      refine z_iald C rfl hi61_0 d_X12_muchOf_61 ?_
      refine z_if_ne (tgt := 80) C d_X12_muchOf_62 (by decide) hf (fun c62 hf => ?_) (fun c62 hf => ?_)
      · refine z_aload_n (j := 0) C d_X12_muchOf_80 rfl ?_
        refine z_iload_n (j := 2) C d_X12_muchOf_81 rfl ?_
        refine z_iconst (v := 2) C d_X12_muchOf_82 (by decide) ?_
        refine z_aload_n (j := 0) C d_X12_muchOf_83 rfl ?_
        refine zg_X12_kind C rfl tw_1246 d_X12_muchOf_84 ?_
        refine z_iload_n (j := 1) C d_X12_muchOf_87 rfl ?_
        obtain ⟨hi88_0, hf⟩ := gd hf
        refine z_iald C rfl hi88_0 d_X12_muchOf_88 ?_
        refine z_iconst (v := 1) C d_X12_muchOf_89 (by decide) ?_
        refine z_icmp_ne (tgt := 99) C d_X12_muchOf_90 (by decide) hf (fun c90 hf => ?_) (fun c90 hf => ?_)
        · refine z_iload_n (j := 3) C d_X12_muchOf_99 rfl ?_
          exact z_sub [] rfl (t_X12_muchOf_100 C hr  _ _ _ _ hf)
        · refine z_iconst (v := 1) C d_X12_muchOf_93 (by decide) ?_
          refine z_iload_n (j := 3) C d_X12_muchOf_94 rfl ?_
          refine z_isub C d_X12_muchOf_95 ?_
          refine z_goto (tgt := 100) C d_X12_muchOf_96 (by decide) ?_
          exact z_sub [] rfl (t_X12_muchOf_100 C hr  _ _ _ _ hf)
      · refine z_aload_n (j := 0) C d_X12_muchOf_65 rfl ?_
        refine z_aload_n (j := 0) C d_X12_muchOf_66 rfl ?_
        refine zg_X12_who C rfl tw_1254 d_X12_muchOf_67 ?_
        refine z_aload_n (j := 0) C d_X12_muchOf_70 rfl ?_
        refine z_iload_n (j := 2) C d_X12_muchOf_71 rfl ?_
        refine z_iload_n (j := 3) C d_X12_muchOf_72 rfl ?_
        obtain ⟨q73, hF, hf⟩ := bd hf
        refine z_callV1 (rest := [aI (gI S 20 43), aR 20]) C [aI v2, aI v3] rfl (by decide) rfl rfl k_X12_thingOf tw_1517 ⟨by decide, by decide⟩ (Nat.le_of_ble_eq_true rfl) d_X12_muchOf_73 (c_X12_thingOf C.inj hF) rfl ?_
        obtain ⟨q76, hF, hf⟩ := bd hf
        refine z_callV1 (rest := []) C [aI (gI S 20 43), aI q73.1] rfl (by decide) rfl rfl k_X12_inPurse tw_1521 ⟨by decide, by decide⟩ (Nat.le_of_ble_eq_true rfl) d_X12_muchOf_76 (c_X12_inPurse C.inj hF) rfl ?_
        exact r_l C hr d_X12_muchOf_79 hf
    · refine z_aload_n (j := 0) C d_X12_muchOf_51 rfl ?_
      refine zg_X12_got C rfl tw_1256 d_X12_muchOf_52 ?_
      exact r_l C hr d_X12_muchOf_55 hf
  · refine z_aload_n (j := 0) C d_X12_muchOf_29 rfl ?_
    refine zg_X12_numbers C rfl tw_1248 d_X12_muchOf_30 ?_
    refine z_iconst (v := 4) C d_X12_muchOf_33 (by decide) ?_
    refine z_iload_n (j := 1) C d_X12_muchOf_34 rfl ?_
    refine z_imul C d_X12_muchOf_35 ?_
    refine z_iconst (v := 2) C d_X12_muchOf_36 (by decide) ?_
    refine z_iadd C d_X12_muchOf_37 ?_
    obtain ⟨hi38_0, hf⟩ := gd hf
    refine z_iald C rfl hi38_0 d_X12_muchOf_38 ?_
    refine z_i2l C d_X12_muchOf_39 ?_
    exact r_l C hr d_X12_muchOf_40 hf
def f_X12_muchOf_9 (v1 : Int32) (v2 : Int32) (S : Mem) : Option (Int64 × Mem) := (if inb ((4 * v1) + 1) 160 = true then (f_X12_muchOf_20  v1 v2 (gI S 30 ((((4 * v1) + 1) : Int32).toNatClampNeg)) S) else none)
set_option maxRecDepth 20000 in
theorem t_X12_muchOf_9 {X : MC} {Γ : GG} (C : CX X Γ cX12_muchOf 4 "TickPoolsModel" 1 22) (hr : X.2.2.2.2.2.2.2.2.1.sig.returnType = some .long) {q : Int64 × Mem} (v1 : Int32) (v2 : Int32) (S : Mem) (hf : f_X12_muchOf_9 v1 v2 S = some q) : ZZ X Γ 4 (QQ X Γ (some (aJ q.1)) q.2) S 9 [(0, aR 20), (1, aI v1), (2, aI v2)] [] := by
  unfold f_X12_muchOf_9 at hf
  refine z_aload_n (j := 0) C d_X12_muchOf_9 rfl ?_
  refine zg_X12_numbers C rfl tw_1248 d_X12_muchOf_10 ?_
  refine z_iconst (v := 4) C d_X12_muchOf_13 (by decide) ?_
  refine z_iload_n (j := 1) C d_X12_muchOf_14 rfl ?_
  refine z_imul C d_X12_muchOf_15 ?_
  refine z_iconst (v := 1) C d_X12_muchOf_16 (by decide) ?_
  refine z_iadd C d_X12_muchOf_17 ?_
  obtain ⟨hi18_0, hf⟩ := gd hf
  refine z_iald C rfl hi18_0 d_X12_muchOf_18 ?_
  refine z_istore_n (lv' := [(3, aI (gI S 30 ((((4 * v1) + 1) : Int32).toNatClampNeg))), (0, aR 20), (1, aI v1), (2, aI v2)]) C d_X12_muchOf_19 (by decide) rfl ?_
  exact z_sub [1, 2, 3, 0] rfl (t_X12_muchOf_20 C hr  _ _ _ _ hf)
/-- TickPoolsModel.muchOf(I)J -/
def f_X12_muchOf (p1 : Int32) (S : Mem) : Option (Int64 × Mem) := (if inb (4 * p1) 160 = true then (f_X12_muchOf_9  p1 (gI S 30 (((4 * p1) : Int32).toNatClampNeg)) S) else none)
set_option maxRecDepth 20000 in
theorem c_X12_muchOf {l : Launch} {Γ : GG} (hI : Inj Γ) {p1 : Int32} {S : Mem} {q : Int64 × Mem} (hf : f_X12_muchOf p1 S = some q) : MM l Γ yX12_muchOf cX12_muchOf 4 (some .long) 1 22 [aR 20, aI p1] S (some (aJ q.1)) q.2 := by
  refine met_of hI "TickPoolsModel" rfl (by decide +kernel) (Nat.le_of_ble_eq_true rfl) (fun X hX C hr => ?_)
  unfold f_X12_muchOf at hf
  show ZZ X Γ 4 _ S 0 [(0, aR 20), (1, aI p1)] []
  refine z_aload_n (j := 0) C d_X12_muchOf_0 rfl ?_
  refine zg_X12_numbers C rfl tw_1248 d_X12_muchOf_1 ?_
  refine z_iconst (v := 4) C d_X12_muchOf_4 (by decide) ?_
  refine z_iload_n (j := 1) C d_X12_muchOf_5 rfl ?_
  refine z_imul C d_X12_muchOf_6 ?_
  obtain ⟨hi7_0, hf⟩ := gd hf
  refine z_iald C rfl hi7_0 d_X12_muchOf_7 ?_
  refine z_istore_n (lv' := [(2, aI (gI S 30 (((4 * p1) : Int32).toNatClampNeg))), (0, aR 20), (1, aI p1)]) C d_X12_muchOf_8 (by decide) rfl ?_
  exact z_sub [1, 2, 0] rfl (t_X12_muchOf_9 C hr  _ _ _ hf)
theorem d_X12_swapsOne_0 : decode cX12_swapsOne 0 = .ok (.aload_n 0, 1) := by decide +kernel
theorem d_X12_swapsOne_1 : decode cX12_swapsOne 1 = .ok (.getfield 80, 3) := by decide +kernel
theorem d_X12_swapsOne_4 : decode cX12_swapsOne 4 = .ok (.iconst 4, 1) := by decide +kernel
theorem d_X12_swapsOne_5 : decode cX12_swapsOne 5 = .ok (.iload_n 1, 1) := by decide +kernel
theorem d_X12_swapsOne_6 : decode cX12_swapsOne 6 = .ok (.imul, 1) := by decide +kernel
theorem d_X12_swapsOne_7 : decode cX12_swapsOne 7 = .ok (.iaload, 1) := by decide +kernel
theorem d_X12_swapsOne_8 : decode cX12_swapsOne 8 = .ok (.istore_n 2, 1) := by decide +kernel
theorem d_X12_swapsOne_9 : decode cX12_swapsOne 9 = .ok (.aload_n 0, 1) := by decide +kernel
theorem d_X12_swapsOne_10 : decode cX12_swapsOne 10 = .ok (.iload_n 2, 1) := by decide +kernel
theorem d_X12_swapsOne_11 : decode cX12_swapsOne 11 = .ok (.invokevirtual 446, 3) := by decide +kernel
theorem d_X12_swapsOne_14 : decode cX12_swapsOne 14 = .ok (.ifCond .ne 10, 3) := by decide +kernel
theorem d_X12_swapsOne_17 : decode cX12_swapsOne 17 = .ok (.aload_n 0, 1) := by decide +kernel
theorem d_X12_swapsOne_18 : decode cX12_swapsOne 18 = .ok (.iconst 5, 1) := by decide +kernel
theorem d_X12_swapsOne_19 : decode cX12_swapsOne 19 = .ok (.iload_n 1, 1) := by decide +kernel
theorem d_X12_swapsOne_20 : decode cX12_swapsOne 20 = .ok (.invokevirtual 449, 3) := by decide +kernel
theorem d_X12_swapsOne_23 : decode cX12_swapsOne 23 = .ok (.ireturn, 1) := by decide +kernel
theorem d_X12_swapsOne_24 : decode cX12_swapsOne 24 = .ok (.aload_n 0, 1) := by decide +kernel
theorem d_X12_swapsOne_25 : decode cX12_swapsOne 25 = .ok (.iload_n 1, 1) := by decide +kernel
theorem d_X12_swapsOne_26 : decode cX12_swapsOne 26 = .ok (.invokevirtual 452, 3) := by decide +kernel
theorem d_X12_swapsOne_29 : decode cX12_swapsOne 29 = .ok (.lstore_n 3, 1) := by decide +kernel
theorem d_X12_swapsOne_30 : decode cX12_swapsOne 30 = .ok (.lload_n 3, 1) := by decide +kernel
theorem d_X12_swapsOne_31 : decode cX12_swapsOne 31 = .ok (.lconst 1, 1) := by decide +kernel
theorem d_X12_swapsOne_32 : decode cX12_swapsOne 32 = .ok (.ldc2_w 455, 3) := by decide +kernel
theorem d_X12_swapsOne_35 : decode cX12_swapsOne 35 = .ok (.invokestatic 137, 3) := by decide +kernel
theorem d_X12_swapsOne_38 : decode cX12_swapsOne 38 = .ok (.ifCond .ne 10, 3) := by decide +kernel
theorem d_X12_swapsOne_41 : decode cX12_swapsOne 41 = .ok (.aload_n 0, 1) := by decide +kernel
theorem d_X12_swapsOne_42 : decode cX12_swapsOne 42 = .ok (.iconst 5, 1) := by decide +kernel
theorem d_X12_swapsOne_43 : decode cX12_swapsOne 43 = .ok (.iload_n 1, 1) := by decide +kernel
theorem d_X12_swapsOne_44 : decode cX12_swapsOne 44 = .ok (.invokevirtual 449, 3) := by decide +kernel
theorem d_X12_swapsOne_47 : decode cX12_swapsOne 47 = .ok (.ireturn, 1) := by decide +kernel
theorem d_X12_swapsOne_48 : decode cX12_swapsOne 48 = .ok (.aload_n 0, 1) := by decide +kernel
theorem d_X12_swapsOne_49 : decode cX12_swapsOne 49 = .ok (.getfield 80, 3) := by decide +kernel
theorem d_X12_swapsOne_52 : decode cX12_swapsOne 52 = .ok (.iconst 4, 1) := by decide +kernel
theorem d_X12_swapsOne_53 : decode cX12_swapsOne 53 = .ok (.iload_n 1, 1) := by decide +kernel
theorem d_X12_swapsOne_54 : decode cX12_swapsOne 54 = .ok (.imul, 1) := by decide +kernel
theorem d_X12_swapsOne_55 : decode cX12_swapsOne 55 = .ok (.iconst 1, 1) := by decide +kernel
theorem d_X12_swapsOne_56 : decode cX12_swapsOne 56 = .ok (.iadd, 1) := by decide +kernel
theorem d_X12_swapsOne_57 : decode cX12_swapsOne 57 = .ok (.iaload, 1) := by decide +kernel
theorem d_X12_swapsOne_58 : decode cX12_swapsOne 58 = .ok (.istore 5, 2) := by decide +kernel
theorem d_X12_swapsOne_60 : decode cX12_swapsOne 60 = .ok (.aload_n 0, 1) := by decide +kernel
theorem d_X12_swapsOne_61 : decode cX12_swapsOne 61 = .ok (.getfield 74, 3) := by decide +kernel
theorem d_X12_swapsOne_64 : decode cX12_swapsOne 64 = .ok (.iload_n 1, 1) := by decide +kernel
theorem d_X12_swapsOne_65 : decode cX12_swapsOne 65 = .ok (.iaload, 1) := by decide +kernel
theorem d_X12_swapsOne_66 : decode cX12_swapsOne 66 = .ok (.ifCond .ne 24, 3) := by decide +kernel
theorem d_X12_swapsOne_69 : decode cX12_swapsOne 69 = .ok (.aload_n 0, 1) := by decide +kernel
theorem d_X12_swapsOne_70 : decode cX12_swapsOne 70 = .ok (.aload_n 0, 1) := by decide +kernel
theorem d_X12_swapsOne_71 : decode cX12_swapsOne 71 = .ok (.getfield 443, 3) := by decide +kernel
theorem d_X12_swapsOne_74 : decode cX12_swapsOne 74 = .ok (.iload_n 2, 1) := by decide +kernel
theorem d_X12_swapsOne_75 : decode cX12_swapsOne 75 = .ok (.iload 5, 2) := by decide +kernel
theorem d_X12_swapsOne_77 : decode cX12_swapsOne 77 = .ok (.lload_n 3, 1) := by decide +kernel
theorem d_X12_swapsOne_78 : decode cX12_swapsOne 78 = .ok (.l2i, 1) := by decide +kernel
theorem d_X12_swapsOne_79 : decode cX12_swapsOne 79 = .ok (.iload 5, 2) := by decide +kernel
theorem d_X12_swapsOne_81 : decode cX12_swapsOne 81 = .ok (.invokestatic 404, 3) := by decide +kernel
theorem d_X12_swapsOne_84 : decode cX12_swapsOne 84 = .ok (.invokevirtual 457, 3) := by decide +kernel
theorem d_X12_swapsOne_87 : decode cX12_swapsOne 87 = .ok (.goto 16, 3) := by decide +kernel
theorem d_X12_swapsOne_90 : decode cX12_swapsOne 90 = .ok (.aload_n 0, 1) := by decide +kernel
theorem d_X12_swapsOne_91 : decode cX12_swapsOne 91 = .ok (.aload_n 0, 1) := by decide +kernel
theorem d_X12_swapsOne_92 : decode cX12_swapsOne 92 = .ok (.getfield 443, 3) := by decide +kernel
theorem d_X12_swapsOne_95 : decode cX12_swapsOne 95 = .ok (.iload_n 2, 1) := by decide +kernel
theorem d_X12_swapsOne_96 : decode cX12_swapsOne 96 = .ok (.iload 5, 2) := by decide +kernel
theorem d_X12_swapsOne_98 : decode cX12_swapsOne 98 = .ok (.lload_n 3, 1) := by decide +kernel
theorem d_X12_swapsOne_99 : decode cX12_swapsOne 99 = .ok (.l2i, 1) := by decide +kernel
theorem d_X12_swapsOne_100 : decode cX12_swapsOne 100 = .ok (.invokevirtual 460, 3) := by decide +kernel
theorem d_X12_swapsOne_103 : decode cX12_swapsOne 103 = .ok (.ifCond .ge 10, 3) := by decide +kernel
theorem d_X12_swapsOne_106 : decode cX12_swapsOne 106 = .ok (.aload_n 0, 1) := by decide +kernel
theorem d_X12_swapsOne_107 : decode cX12_swapsOne 107 = .ok (.iconst 5, 1) := by decide +kernel
theorem d_X12_swapsOne_108 : decode cX12_swapsOne 108 = .ok (.iload_n 1, 1) := by decide +kernel
theorem d_X12_swapsOne_109 : decode cX12_swapsOne 109 = .ok (.invokevirtual 449, 3) := by decide +kernel
theorem d_X12_swapsOne_112 : decode cX12_swapsOne 112 = .ok (.ireturn, 1) := by decide +kernel
theorem d_X12_swapsOne_113 : decode cX12_swapsOne 113 = .ok (.aload_n 0, 1) := by decide +kernel
theorem d_X12_swapsOne_114 : decode cX12_swapsOne 114 = .ok (.aload_n 0, 1) := by decide +kernel
theorem d_X12_swapsOne_115 : decode cX12_swapsOne 115 = .ok (.getfield 352, 3) := by decide +kernel
theorem d_X12_swapsOne_118 : decode cX12_swapsOne 118 = .ok (.putfield 440, 3) := by decide +kernel
theorem d_X12_swapsOne_121 : decode cX12_swapsOne 121 = .ok (.iconst 1, 1) := by decide +kernel
theorem d_X12_swapsOne_122 : decode cX12_swapsOne 122 = .ok (.ireturn, 1) := by decide +kernel
def f_X12_swapsOne_103 (v1 : Int32) (s0 : Int32) (S : Mem) : Option (Int32 × Mem) := (if 0 ≤ s0 then (some (1, (sL S 20 45 (gL S 20 31)))) else ((f_X12_stops 5 v1 S).bind fun q109 => (if isB q109.1 = true then (some (q109.1, q109.2)) else none)))
set_option maxRecDepth 20000 in
theorem t_X12_swapsOne_103 {X : MC} {Γ : GG} (C : CX X Γ cX12_swapsOne 6 "TickPoolsModel" 8 232) (hr : X.2.2.2.2.2.2.2.2.1.sig.returnType = some .boolean) {q : Int32 × Mem} (v1 : Int32) (s0 : Int32) (S : Mem) (hf : f_X12_swapsOne_103 v1 s0 S = some q) : ZZ X Γ 6 (QQ X Γ (some (aI q.1)) q.2) S 103 [(0, aR 20), (1, aI v1)] [aI s0] := by
  unfold f_X12_swapsOne_103 at hf
  refine z_if_ge (tgt := 113) C d_X12_swapsOne_103 (by decide) hf (fun c103 hf => ?_) (fun c103 hf => ?_)
  · refine z_aload_n (j := 0) C d_X12_swapsOne_113 rfl ?_
    refine z_aload_n (j := 0) C d_X12_swapsOne_114 rfl ?_
    refine zg_X12_gone C rfl tw_1242 d_X12_swapsOne_115 ?_
    refine zp_X12_got C rfl tw_1256 d_X12_swapsOne_118 ?_
    refine z_iconst (v := 1) C d_X12_swapsOne_121 (by decide) ?_
    exact r_i C hr (by decide) d_X12_swapsOne_122 hf
  · refine z_aload_n (j := 0) C d_X12_swapsOne_106 rfl ?_
    refine z_iconst (v := 5) C d_X12_swapsOne_107 (by decide) ?_
    refine z_iload_n (j := 1) C d_X12_swapsOne_108 rfl ?_
    obtain ⟨q109, hF, hf⟩ := bd hf
    refine z_callV1 (rest := []) C [aI 5, aI v1] rfl (by decide) rfl rfl k_X12_stops tw_1725 ⟨by decide, by decide⟩ (Nat.le_of_ble_eq_true rfl) d_X12_swapsOne_109 (c_X12_stops C.inj hF) rfl ?_
    obtain ⟨hb112_1, hf⟩ := gd hf
    exact r_i C hr (isB_nar hb112_1).1 d_X12_swapsOne_112 hf
def f_X12_swapsOne_60 (v1 : Int32) (v2 : Int32) (v3 : Int64) (v5 : Int32) (S : Mem) : Option (Int32 × Mem) := (if inb v1 40 = true then (if (gI S 28 ((v1 : Int32).toNatClampNeg)) = 0 then ((f_X12_endOf v5 S).bind fun q81 => ((f_X12_in (gI S 20 43) v2 v5 ((v3 : Int64).toInt32) q81.1 q81.2).bind fun q84 => (f_X12_swapsOne_103  v1 q84.1 q84.2))) else ((f_X12_out (gI S 20 43) v2 v5 ((v3 : Int64).toInt32) S).bind fun q100 => (f_X12_swapsOne_103  v1 q100.1 q100.2))) else none)
set_option maxRecDepth 20000 in
theorem t_X12_swapsOne_60 {X : MC} {Γ : GG} (C : CX X Γ cX12_swapsOne 6 "TickPoolsModel" 8 232) (hr : X.2.2.2.2.2.2.2.2.1.sig.returnType = some .boolean) {q : Int32 × Mem} (v1 : Int32) (v2 : Int32) (v3 : Int64) (v5 : Int32) (S : Mem) (hf : f_X12_swapsOne_60 v1 v2 v3 v5 S = some q) : ZZ X Γ 6 (QQ X Γ (some (aI q.1)) q.2) S 60 [(0, aR 20), (1, aI v1), (2, aI v2), (3, aJ v3), (5, aI v5)] [] := by
  unfold f_X12_swapsOne_60 at hf
  refine z_aload_n (j := 0) C d_X12_swapsOne_60 rfl ?_
  refine zg_X12_kind C rfl tw_1246 d_X12_swapsOne_61 ?_
  refine z_iload_n (j := 1) C d_X12_swapsOne_64 rfl ?_
  obtain ⟨hi65_0, hf⟩ := gd hf
  refine z_iald C rfl hi65_0 d_X12_swapsOne_65 ?_
  refine z_if_ne (tgt := 90) C d_X12_swapsOne_66 (by decide) hf (fun c66 hf => ?_) (fun c66 hf => ?_)
  · refine z_aload_n (j := 0) C d_X12_swapsOne_90 rfl ?_
    refine z_aload_n (j := 0) C d_X12_swapsOne_91 rfl ?_
    refine zg_X12_who C rfl tw_1254 d_X12_swapsOne_92 ?_
    refine z_iload_n (j := 2) C d_X12_swapsOne_95 rfl ?_
    refine z_iload (j := 4) C d_X12_swapsOne_96 rfl ?_
    refine z_lload_n (j := 3) C d_X12_swapsOne_98 rfl ?_
    refine z_l2i C d_X12_swapsOne_99 ?_
    obtain ⟨q100, hF, hf⟩ := bd hf
    refine z_callV1 (rest := []) C [aI (gI S 20 43), aI v2, aI v5, aI ((v3 : Int64).toInt32)] rfl (by decide) rfl rfl k_X12_out tw_1759 ⟨by decide, by decide⟩ (Nat.le_of_ble_eq_true rfl) d_X12_swapsOne_100 (c_X12_out C.inj hF) rfl ?_
    exact z_sub [0, 1] rfl (t_X12_swapsOne_103 C hr  _ _ _ hf)
  · refine z_aload_n (j := 0) C d_X12_swapsOne_69 rfl ?_
    refine z_aload_n (j := 0) C d_X12_swapsOne_70 rfl ?_
    refine zg_X12_who C rfl tw_1254 d_X12_swapsOne_71 ?_
    refine z_iload_n (j := 2) C d_X12_swapsOne_74 rfl ?_
    refine z_iload (j := 4) C d_X12_swapsOne_75 rfl ?_
    refine z_lload_n (j := 3) C d_X12_swapsOne_77 rfl ?_
    refine z_l2i C d_X12_swapsOne_78 ?_
    refine z_iload (j := 4) C d_X12_swapsOne_79 rfl ?_
    obtain ⟨q81, hF, hf⟩ := bd hf
    refine z_callS1 (rest := [aI ((v3 : Int64).toInt32), aI v5, aI v2, aI (gI S 20 43), aR 20]) C [aI v5] k_X12_endOf tw_1674 ⟨by decide, by decide⟩ (Nat.le_of_ble_eq_true rfl) d_X12_swapsOne_81 (c_X12_endOf C.inj hF) rfl ?_
    obtain ⟨q84, hF, hf⟩ := bd hf
    refine z_callV1 (rest := []) C [aI (gI S 20 43), aI v2, aI v5, aI ((v3 : Int64).toInt32), aI q81.1] rfl (by decide) rfl rfl k_X12_in tw_1758 ⟨by decide, by decide⟩ (Nat.le_of_ble_eq_true rfl) d_X12_swapsOne_84 (c_X12_in C.inj hF) rfl ?_
    refine z_goto (tgt := 103) C d_X12_swapsOne_87 (by decide) ?_
    exact z_sub [0, 1] rfl (t_X12_swapsOne_103 C hr  _ _ _ hf)
def f_X12_swapsOne_9 (v1 : Int32) (v2 : Int32) (S : Mem) : Option (Int32 × Mem) := ((f_X12_isOpen v2 S).bind fun q11 => (if q11.1 = 0 then ((f_X12_stops 5 v1 q11.2).bind fun q20 => (if isB q20.1 = true then (some (q20.1, q20.2)) else none)) else ((f_X12_muchOf v1 q11.2).bind fun q26 => ((f_X12_isIn q26.1 1 2147483647 q26.2).bind fun q35 => (if q35.1 = 0 then ((f_X12_stops 5 v1 q35.2).bind fun q44 => (if isB q44.1 = true then (some (q44.1, q44.2)) else none)) else (if inb ((4 * v1) + 1) 160 = true then (f_X12_swapsOne_60  v1 v2 q26.1 (gI q35.2 30 ((((4 * v1) + 1) : Int32).toNatClampNeg)) q35.2) else none))))))
set_option maxRecDepth 20000 in
theorem t_X12_swapsOne_9 {X : MC} {Γ : GG} (C : CX X Γ cX12_swapsOne 6 "TickPoolsModel" 8 232) (hr : X.2.2.2.2.2.2.2.2.1.sig.returnType = some .boolean) {q : Int32 × Mem} (v1 : Int32) (v2 : Int32) (S : Mem) (hf : f_X12_swapsOne_9 v1 v2 S = some q) : ZZ X Γ 6 (QQ X Γ (some (aI q.1)) q.2) S 9 [(0, aR 20), (1, aI v1), (2, aI v2)] [] := by
  unfold f_X12_swapsOne_9 at hf
  refine z_aload_n (j := 0) C d_X12_swapsOne_9 rfl ?_
  refine z_iload_n (j := 2) C d_X12_swapsOne_10 rfl ?_
  obtain ⟨q11, hF, hf⟩ := bd hf
  refine z_callV1 (rest := []) C [aI v2] rfl (by decide) rfl rfl k_X12_isOpen tw_1737 ⟨by decide, by decide⟩ (Nat.le_of_ble_eq_true rfl) d_X12_swapsOne_11 (c_X12_isOpen C.inj hF) rfl ?_
  refine z_if_ne (tgt := 24) C d_X12_swapsOne_14 (by decide) hf (fun c14 hf => ?_) (fun c14 hf => ?_)
  · refine z_aload_n (j := 0) C d_X12_swapsOne_24 rfl ?_
    refine z_iload_n (j := 1) C d_X12_swapsOne_25 rfl ?_
    obtain ⟨q26, hF, hf⟩ := bd hf
    refine z_callV1 (rest := []) C [aI v1] rfl (by decide) rfl rfl k_X12_muchOf tw_1741 ⟨by decide, by decide⟩ (Nat.le_of_ble_eq_true rfl) d_X12_swapsOne_26 (c_X12_muchOf C.inj hF) rfl ?_
    refine z_lstore_n (lv' := [(3, aJ q26.1), (0, aR 20), (1, aI v1), (2, aI v2)]) C d_X12_swapsOne_29 (by decide) rfl ?_
    refine z_lload_n (j := 0) C d_X12_swapsOne_30 rfl ?_
    refine z_lconst (v := 1) C d_X12_swapsOne_31 (by decide) ?_
    refine z_ldc2 (v := 2147483647) C tw_1757 d_X12_swapsOne_32 ?_
    obtain ⟨q35, hF, hf⟩ := bd hf
    refine z_callS1 (rest := []) C [aJ q26.1, aJ 1, aJ 2147483647] k_X12_isIn tw_1385 ⟨by decide, by decide⟩ (Nat.le_of_ble_eq_true rfl) d_X12_swapsOne_35 (c_X12_isIn C.inj hF) rfl ?_
    refine z_if_ne (tgt := 48) C d_X12_swapsOne_38 (by decide) hf (fun c38 hf => ?_) (fun c38 hf => ?_)
    · refine z_aload_n (j := 1) C d_X12_swapsOne_48 rfl ?_
      refine zg_X12_numbers C rfl tw_1248 d_X12_swapsOne_49 ?_
      refine z_iconst (v := 4) C d_X12_swapsOne_52 (by decide) ?_
      refine z_iload_n (j := 2) C d_X12_swapsOne_53 rfl ?_
      refine z_imul C d_X12_swapsOne_54 ?_
      refine z_iconst (v := 1) C d_X12_swapsOne_55 (by decide) ?_
      refine z_iadd C d_X12_swapsOne_56 ?_
      obtain ⟨hi57_0, hf⟩ := gd hf
      refine z_iald C rfl hi57_0 d_X12_swapsOne_57 ?_
      refine z_istore (lv' := [(5, aI (gI q35.2 30 ((((4 * v1) + 1) : Int32).toNatClampNeg))), (3, aJ q26.1), (0, aR 20), (1, aI v1), (2, aI v2)]) C d_X12_swapsOne_58 (by decide) rfl ?_
      exact z_sub [2, 3, 4, 1, 0] rfl (t_X12_swapsOne_60 C hr  _ _ _ _ _ hf)
    · refine z_aload_n (j := 1) C d_X12_swapsOne_41 rfl ?_
      refine z_iconst (v := 5) C d_X12_swapsOne_42 (by decide) ?_
      refine z_iload_n (j := 2) C d_X12_swapsOne_43 rfl ?_
      obtain ⟨q44, hF, hf⟩ := bd hf
      refine z_callV1 (rest := []) C [aI 5, aI v1] rfl (by decide) rfl rfl k_X12_stops tw_1725 ⟨by decide, by decide⟩ (Nat.le_of_ble_eq_true rfl) d_X12_swapsOne_44 (c_X12_stops C.inj hF) rfl ?_
      obtain ⟨hb47_1, hf⟩ := gd hf
      exact r_i C hr (isB_nar hb47_1).1 d_X12_swapsOne_47 hf
  · refine z_aload_n (j := 0) C d_X12_swapsOne_17 rfl ?_
    refine z_iconst (v := 5) C d_X12_swapsOne_18 (by decide) ?_
    refine z_iload_n (j := 1) C d_X12_swapsOne_19 rfl ?_
    obtain ⟨q20, hF, hf⟩ := bd hf
    refine z_callV1 (rest := []) C [aI 5, aI v1] rfl (by decide) rfl rfl k_X12_stops tw_1725 ⟨by decide, by decide⟩ (Nat.le_of_ble_eq_true rfl) d_X12_swapsOne_20 (c_X12_stops C.inj hF) rfl ?_
    obtain ⟨hb23_1, hf⟩ := gd hf
    exact r_i C hr (isB_nar hb23_1).1 d_X12_swapsOne_23 hf
/-- TickPoolsModel.swapsOne(I)Z -/
def f_X12_swapsOne (p1 : Int32) (S : Mem) : Option (Int32 × Mem) := (if inb (4 * p1) 160 = true then (f_X12_swapsOne_9  p1 (gI S 30 (((4 * p1) : Int32).toNatClampNeg)) S) else none)
set_option maxRecDepth 20000 in
theorem c_X12_swapsOne {l : Launch} {Γ : GG} (hI : Inj Γ) {p1 : Int32} {S : Mem} {q : Int32 × Mem} (hf : f_X12_swapsOne p1 S = some q) : MM l Γ yX12_swapsOne cX12_swapsOne 6 (some .boolean) 8 232 [aR 20, aI p1] S (some (aI q.1)) q.2 := by
  refine met_of hI "TickPoolsModel" rfl (by decide +kernel) (Nat.le_of_ble_eq_true rfl) (fun X hX C hr => ?_)
  unfold f_X12_swapsOne at hf
  show ZZ X Γ 6 _ S 0 [(0, aR 20), (1, aI p1)] []
  refine z_aload_n (j := 0) C d_X12_swapsOne_0 rfl ?_
  refine zg_X12_numbers C rfl tw_1248 d_X12_swapsOne_1 ?_
  refine z_iconst (v := 4) C d_X12_swapsOne_4 (by decide) ?_
  refine z_iload_n (j := 1) C d_X12_swapsOne_5 rfl ?_
  refine z_imul C d_X12_swapsOne_6 ?_
  obtain ⟨hi7_0, hf⟩ := gd hf
  refine z_iald C rfl hi7_0 d_X12_swapsOne_7 ?_
  refine z_istore_n (lv' := [(2, aI (gI S 30 (((4 * p1) : Int32).toNatClampNeg))), (0, aR 20), (1, aI p1)]) C d_X12_swapsOne_8 (by decide) rfl ?_
  exact z_sub [1, 2, 0] rfl (t_X12_swapsOne_9 C hr  _ _ _ hf)
theorem d_X12_dropsOne_0 : decode cX12_dropsOne 0 = .ok (.aload_n 0, 1) := by decide +kernel
theorem d_X12_dropsOne_1 : decode cX12_dropsOne 1 = .ok (.getfield 80, 3) := by decide +kernel
theorem d_X12_dropsOne_4 : decode cX12_dropsOne 4 = .ok (.iconst 4, 1) := by decide +kernel
theorem d_X12_dropsOne_5 : decode cX12_dropsOne 5 = .ok (.iload_n 1, 1) := by decide +kernel
theorem d_X12_dropsOne_6 : decode cX12_dropsOne 6 = .ok (.imul, 1) := by decide +kernel
theorem d_X12_dropsOne_7 : decode cX12_dropsOne 7 = .ok (.iaload, 1) := by decide +kernel
theorem d_X12_dropsOne_8 : decode cX12_dropsOne 8 = .ok (.istore_n 2, 1) := by decide +kernel
theorem d_X12_dropsOne_9 : decode cX12_dropsOne 9 = .ok (.aload_n 0, 1) := by decide +kernel
theorem d_X12_dropsOne_10 : decode cX12_dropsOne 10 = .ok (.iload_n 2, 1) := by decide +kernel
theorem d_X12_dropsOne_11 : decode cX12_dropsOne 11 = .ok (.invokevirtual 446, 3) := by decide +kernel
theorem d_X12_dropsOne_14 : decode cX12_dropsOne 14 = .ok (.ifCond .eq 36, 3) := by decide +kernel
theorem d_X12_dropsOne_17 : decode cX12_dropsOne 17 = .ok (.aload_n 0, 1) := by decide +kernel
theorem d_X12_dropsOne_18 : decode cX12_dropsOne 18 = .ok (.aload_n 0, 1) := by decide +kernel
theorem d_X12_dropsOne_19 : decode cX12_dropsOne 19 = .ok (.getfield 443, 3) := by decide +kernel
theorem d_X12_dropsOne_22 : decode cX12_dropsOne 22 = .ok (.iload_n 2, 1) := by decide +kernel
theorem d_X12_dropsOne_23 : decode cX12_dropsOne 23 = .ok (.aload_n 0, 1) := by decide +kernel
theorem d_X12_dropsOne_24 : decode cX12_dropsOne 24 = .ok (.getfield 80, 3) := by decide +kernel
theorem d_X12_dropsOne_27 : decode cX12_dropsOne 27 = .ok (.iconst 4, 1) := by decide +kernel
theorem d_X12_dropsOne_28 : decode cX12_dropsOne 28 = .ok (.iload_n 1, 1) := by decide +kernel
theorem d_X12_dropsOne_29 : decode cX12_dropsOne 29 = .ok (.imul, 1) := by decide +kernel
theorem d_X12_dropsOne_30 : decode cX12_dropsOne 30 = .ok (.iconst 1, 1) := by decide +kernel
theorem d_X12_dropsOne_31 : decode cX12_dropsOne 31 = .ok (.iadd, 1) := by decide +kernel
theorem d_X12_dropsOne_32 : decode cX12_dropsOne 32 = .ok (.iaload, 1) := by decide +kernel
theorem d_X12_dropsOne_33 : decode cX12_dropsOne 33 = .ok (.aload_n 0, 1) := by decide +kernel
theorem d_X12_dropsOne_34 : decode cX12_dropsOne 34 = .ok (.getfield 80, 3) := by decide +kernel
theorem d_X12_dropsOne_37 : decode cX12_dropsOne 37 = .ok (.iconst 4, 1) := by decide +kernel
theorem d_X12_dropsOne_38 : decode cX12_dropsOne 38 = .ok (.iload_n 1, 1) := by decide +kernel
theorem d_X12_dropsOne_39 : decode cX12_dropsOne 39 = .ok (.imul, 1) := by decide +kernel
theorem d_X12_dropsOne_40 : decode cX12_dropsOne 40 = .ok (.iconst 2, 1) := by decide +kernel
theorem d_X12_dropsOne_41 : decode cX12_dropsOne 41 = .ok (.iadd, 1) := by decide +kernel
theorem d_X12_dropsOne_42 : decode cX12_dropsOne 42 = .ok (.iaload, 1) := by decide +kernel
theorem d_X12_dropsOne_43 : decode cX12_dropsOne 43 = .ok (.iconst 0, 1) := by decide +kernel
theorem d_X12_dropsOne_44 : decode cX12_dropsOne 44 = .ok (.invokevirtual 294, 3) := by decide +kernel
theorem d_X12_dropsOne_47 : decode cX12_dropsOne 47 = .ok (.goto 4, 3) := by decide +kernel
theorem d_X12_dropsOne_50 : decode cX12_dropsOne 50 = .ok (.iconst (-1), 1) := by decide +kernel
theorem d_X12_dropsOne_51 : decode cX12_dropsOne 51 = .ok (.istore_n 3, 1) := by decide +kernel
theorem d_X12_dropsOne_52 : decode cX12_dropsOne 52 = .ok (.iload_n 3, 1) := by decide +kernel
theorem d_X12_dropsOne_53 : decode cX12_dropsOne 53 = .ok (.ifCond .ge 10, 3) := by decide +kernel
theorem d_X12_dropsOne_56 : decode cX12_dropsOne 56 = .ok (.aload_n 0, 1) := by decide +kernel
theorem d_X12_dropsOne_57 : decode cX12_dropsOne 57 = .ok (.iconst 5, 1) := by decide +kernel
theorem d_X12_dropsOne_58 : decode cX12_dropsOne 58 = .ok (.iload_n 1, 1) := by decide +kernel
theorem d_X12_dropsOne_59 : decode cX12_dropsOne 59 = .ok (.invokevirtual 449, 3) := by decide +kernel
theorem d_X12_dropsOne_62 : decode cX12_dropsOne 62 = .ok (.ireturn, 1) := by decide +kernel
theorem d_X12_dropsOne_63 : decode cX12_dropsOne 63 = .ok (.aload_n 0, 1) := by decide +kernel
theorem d_X12_dropsOne_64 : decode cX12_dropsOne 64 = .ok (.iload_n 3, 1) := by decide +kernel
theorem d_X12_dropsOne_65 : decode cX12_dropsOne 65 = .ok (.aload_n 0, 1) := by decide +kernel
theorem d_X12_dropsOne_66 : decode cX12_dropsOne 66 = .ok (.iload_n 3, 1) := by decide +kernel
theorem d_X12_dropsOne_67 : decode cX12_dropsOne 67 = .ok (.iconst 5, 1) := by decide +kernel
theorem d_X12_dropsOne_68 : decode cX12_dropsOne 68 = .ok (.invokevirtual 238, 3) := by decide +kernel
theorem d_X12_dropsOne_71 : decode cX12_dropsOne 71 = .ok (.invokevirtual 310, 3) := by decide +kernel
theorem d_X12_dropsOne_74 : decode cX12_dropsOne 74 = .ok (.iconst 1, 1) := by decide +kernel
theorem d_X12_dropsOne_75 : decode cX12_dropsOne 75 = .ok (.ireturn, 1) := by decide +kernel
def f_X12_dropsOne_51 (v1 : Int32) (s0 : Int32) (S : Mem) : Option (Int32 × Mem) := (if 0 ≤ s0 then ((f_X12_ofStake s0 5 S).bind fun q68 => ((f_X12_takesOut s0 q68.1 q68.2).bind fun q71 => (some (1, q71.2)))) else ((f_X12_stops 5 v1 S).bind fun q59 => (if isB q59.1 = true then (some (q59.1, q59.2)) else none)))
set_option maxRecDepth 20000 in
theorem t_X12_dropsOne_51 {X : MC} {Γ : GG} (C : CX X Γ cX12_dropsOne 4 "TickPoolsModel" 4 108) (hr : X.2.2.2.2.2.2.2.2.1.sig.returnType = some .boolean) {q : Int32 × Mem} (v1 : Int32) (s0 : Int32) (S : Mem) (hf : f_X12_dropsOne_51 v1 s0 S = some q) : ZZ X Γ 4 (QQ X Γ (some (aI q.1)) q.2) S 51 [(0, aR 20), (1, aI v1)] [aI s0] := by
  unfold f_X12_dropsOne_51 at hf
  refine z_istore_n (lv' := [(3, aI s0), (0, aR 20), (1, aI v1)]) C d_X12_dropsOne_51 (by decide) rfl ?_
  refine z_iload_n (j := 0) C d_X12_dropsOne_52 rfl ?_
  refine z_if_ge (tgt := 63) C d_X12_dropsOne_53 (by decide) hf (fun c53 hf => ?_) (fun c53 hf => ?_)
  · refine z_aload_n (j := 1) C d_X12_dropsOne_63 rfl ?_
    refine z_iload_n (j := 0) C d_X12_dropsOne_64 rfl ?_
    refine z_aload_n (j := 1) C d_X12_dropsOne_65 rfl ?_
    refine z_iload_n (j := 0) C d_X12_dropsOne_66 rfl ?_
    refine z_iconst (v := 5) C d_X12_dropsOne_67 (by decide) ?_
    obtain ⟨q68, hF, hf⟩ := bd hf
    refine z_callV1 (rest := [aI s0, aR 20]) C [aI s0, aI 5] rfl (by decide) rfl rfl k_X12_ofStake tw_1490 ⟨by decide, by decide⟩ (Nat.le_of_ble_eq_true rfl) d_X12_dropsOne_68 (c_X12_ofStake C.inj hF) rfl ?_
    obtain ⟨q71, hF, hf⟩ := bd hf
    refine z_callV0 (rest := []) C [aI s0, aJ q68.1] rfl (by decide) rfl rfl k_X12_takesOut tw_1558 ⟨by decide, by decide⟩ (Nat.le_of_ble_eq_true rfl) d_X12_dropsOne_71 (c_X12_takesOut C.inj hF) rfl ?_
    refine z_iconst (v := 1) C d_X12_dropsOne_74 (by decide) ?_
    exact r_i C hr (by decide) d_X12_dropsOne_75 hf
  · refine z_aload_n (j := 1) C d_X12_dropsOne_56 rfl ?_
    refine z_iconst (v := 5) C d_X12_dropsOne_57 (by decide) ?_
    refine z_iload_n (j := 2) C d_X12_dropsOne_58 rfl ?_
    obtain ⟨q59, hF, hf⟩ := bd hf
    refine z_callV1 (rest := []) C [aI 5, aI v1] rfl (by decide) rfl rfl k_X12_stops tw_1725 ⟨by decide, by decide⟩ (Nat.le_of_ble_eq_true rfl) d_X12_dropsOne_59 (c_X12_stops C.inj hF) rfl ?_
    obtain ⟨hb62_1, hf⟩ := gd hf
    exact r_i C hr (isB_nar hb62_1).1 d_X12_dropsOne_62 hf
def f_X12_dropsOne_9 (v1 : Int32) (v2 : Int32) (S : Mem) : Option (Int32 × Mem) := ((f_X12_isOpen v2 S).bind fun q11 => (if q11.1 = 0 then (f_X12_dropsOne_51  v1 (-1) q11.2) else (if inb ((4 * v1) + 1) 160 = true then (if inb ((4 * v1) + 2) 160 = true then ((f_X12_stakeOf (gI q11.2 20 43) v2 (gI q11.2 30 ((((4 * v1) + 1) : Int32).toNatClampNeg)) (gI q11.2 30 ((((4 * v1) + 2) : Int32).toNatClampNeg)) 0 q11.2).bind fun q44 => (f_X12_dropsOne_51  v1 q44.1 q44.2)) else none) else none)))
set_option maxRecDepth 20000 in
theorem t_X12_dropsOne_9 {X : MC} {Γ : GG} (C : CX X Γ cX12_dropsOne 4 "TickPoolsModel" 4 108) (hr : X.2.2.2.2.2.2.2.2.1.sig.returnType = some .boolean) {q : Int32 × Mem} (v1 : Int32) (v2 : Int32) (S : Mem) (hf : f_X12_dropsOne_9 v1 v2 S = some q) : ZZ X Γ 4 (QQ X Γ (some (aI q.1)) q.2) S 9 [(0, aR 20), (1, aI v1), (2, aI v2)] [] := by
  unfold f_X12_dropsOne_9 at hf
  refine z_aload_n (j := 0) C d_X12_dropsOne_9 rfl ?_
  refine z_iload_n (j := 2) C d_X12_dropsOne_10 rfl ?_
  obtain ⟨q11, hF, hf⟩ := bd hf
  refine z_callV1 (rest := []) C [aI v2] rfl (by decide) rfl rfl k_X12_isOpen tw_1737 ⟨by decide, by decide⟩ (Nat.le_of_ble_eq_true rfl) d_X12_dropsOne_11 (c_X12_isOpen C.inj hF) rfl ?_
  refine z_if_eq (tgt := 50) C d_X12_dropsOne_14 (by decide) hf (fun c14 hf => ?_) (fun c14 hf => ?_)
  · refine z_iconst (v := (-1)) C d_X12_dropsOne_50 (by decide) ?_
    exact z_sub [0, 1] rfl (t_X12_dropsOne_51 C hr  _ _ _ hf)
  · refine z_aload_n (j := 0) C d_X12_dropsOne_17 rfl ?_
    refine z_aload_n (j := 0) C d_X12_dropsOne_18 rfl ?_
    refine zg_X12_who C rfl tw_1254 d_X12_dropsOne_19 ?_
    refine z_iload_n (j := 2) C d_X12_dropsOne_22 rfl ?_
    refine z_aload_n (j := 0) C d_X12_dropsOne_23 rfl ?_
    refine zg_X12_numbers C rfl tw_1248 d_X12_dropsOne_24 ?_
    refine z_iconst (v := 4) C d_X12_dropsOne_27 (by decide) ?_
    refine z_iload_n (j := 1) C d_X12_dropsOne_28 rfl ?_
    refine z_imul C d_X12_dropsOne_29 ?_
    refine z_iconst (v := 1) C d_X12_dropsOne_30 (by decide) ?_
    refine z_iadd C d_X12_dropsOne_31 ?_
    obtain ⟨hi32_0, hf⟩ := gd hf
    refine z_iald C rfl hi32_0 d_X12_dropsOne_32 ?_
    refine z_aload_n (j := 0) C d_X12_dropsOne_33 rfl ?_
    refine zg_X12_numbers C rfl tw_1248 d_X12_dropsOne_34 ?_
    refine z_iconst (v := 4) C d_X12_dropsOne_37 (by decide) ?_
    refine z_iload_n (j := 1) C d_X12_dropsOne_38 rfl ?_
    refine z_imul C d_X12_dropsOne_39 ?_
    refine z_iconst (v := 2) C d_X12_dropsOne_40 (by decide) ?_
    refine z_iadd C d_X12_dropsOne_41 ?_
    obtain ⟨hi42_1, hf⟩ := gd hf
    refine z_iald C rfl hi42_1 d_X12_dropsOne_42 ?_
    refine z_iconst (v := 0) C d_X12_dropsOne_43 (by decide) ?_
    obtain ⟨q44, hF, hf⟩ := bd hf
    refine z_callV1 (rest := []) C [aI (gI q11.2 20 43), aI v2, aI (gI q11.2 30 ((((4 * v1) + 1) : Int32).toNatClampNeg)), aI (gI q11.2 30 ((((4 * v1) + 2) : Int32).toNatClampNeg)), aI 0] rfl (by decide) rfl rfl k_X12_stakeOf tw_1482 ⟨by decide, by decide⟩ (Nat.le_of_ble_eq_true rfl) d_X12_dropsOne_44 (c_X12_stakeOf C.inj hF) rfl ?_
    refine z_goto (tgt := 51) C d_X12_dropsOne_47 (by decide) ?_
    exact z_sub [0, 1] rfl (t_X12_dropsOne_51 C hr  _ _ _ hf)
/-- TickPoolsModel.dropsOne(I)Z -/
def f_X12_dropsOne (p1 : Int32) (S : Mem) : Option (Int32 × Mem) := (if inb (4 * p1) 160 = true then (f_X12_dropsOne_9  p1 (gI S 30 (((4 * p1) : Int32).toNatClampNeg)) S) else none)
set_option maxRecDepth 20000 in
theorem c_X12_dropsOne {l : Launch} {Γ : GG} (hI : Inj Γ) {p1 : Int32} {S : Mem} {q : Int32 × Mem} (hf : f_X12_dropsOne p1 S = some q) : MM l Γ yX12_dropsOne cX12_dropsOne 4 (some .boolean) 4 108 [aR 20, aI p1] S (some (aI q.1)) q.2 := by
  refine met_of hI "TickPoolsModel" rfl (by decide +kernel) (Nat.le_of_ble_eq_true rfl) (fun X hX C hr => ?_)
  unfold f_X12_dropsOne at hf
  show ZZ X Γ 4 _ S 0 [(0, aR 20), (1, aI p1)] []
  refine z_aload_n (j := 0) C d_X12_dropsOne_0 rfl ?_
  refine zg_X12_numbers C rfl tw_1248 d_X12_dropsOne_1 ?_
  refine z_iconst (v := 4) C d_X12_dropsOne_4 (by decide) ?_
  refine z_iload_n (j := 1) C d_X12_dropsOne_5 rfl ?_
  refine z_imul C d_X12_dropsOne_6 ?_
  obtain ⟨hi7_0, hf⟩ := gd hf
  refine z_iald C rfl hi7_0 d_X12_dropsOne_7 ?_
  refine z_istore_n (lv' := [(2, aI (gI S 30 (((4 * p1) : Int32).toNatClampNeg))), (0, aR 20), (1, aI p1)]) C d_X12_dropsOne_8 (by decide) rfl ?_
  exact z_sub [1, 2, 0] rfl (t_X12_dropsOne_9 C hr  _ _ _ hf)
theorem d_X12_goesInto_0 : decode cX12_goesInto 0 = .ok (.aload_n 0, 1) := by decide +kernel
theorem d_X12_goesInto_1 : decode cX12_goesInto 1 = .ok (.getfield 95, 3) := by decide +kernel
theorem d_X12_goesInto_4 : decode cX12_goesInto 4 = .ok (.aload_n 0, 1) := by decide +kernel
theorem d_X12_goesInto_5 : decode cX12_goesInto 5 = .ok (.getfield 463, 3) := by decide +kernel
theorem d_X12_goesInto_8 : decode cX12_goesInto 8 = .ok (.iload_n 1, 1) := by decide +kernel
theorem d_X12_goesInto_9 : decode cX12_goesInto 9 = .ok (.iastore, 1) := by decide +kernel
theorem d_X12_goesInto_10 : decode cX12_goesInto 10 = .ok (.aload_n 0, 1) := by decide +kernel
theorem d_X12_goesInto_11 : decode cX12_goesInto 11 = .ok (.getfield 98, 3) := by decide +kernel
theorem d_X12_goesInto_14 : decode cX12_goesInto 14 = .ok (.aload_n 0, 1) := by decide +kernel
theorem d_X12_goesInto_15 : decode cX12_goesInto 15 = .ok (.getfield 463, 3) := by decide +kernel
theorem d_X12_goesInto_18 : decode cX12_goesInto 18 = .ok (.iload_n 2, 1) := by decide +kernel
theorem d_X12_goesInto_19 : decode cX12_goesInto 19 = .ok (.iastore, 1) := by decide +kernel
theorem d_X12_goesInto_20 : decode cX12_goesInto 20 = .ok (.aload_n 0, 1) := by decide +kernel
theorem d_X12_goesInto_21 : decode cX12_goesInto 21 = .ok (.getfield 101, 3) := by decide +kernel
theorem d_X12_goesInto_24 : decode cX12_goesInto 24 = .ok (.aload_n 0, 1) := by decide +kernel
theorem d_X12_goesInto_25 : decode cX12_goesInto 25 = .ok (.getfield 463, 3) := by decide +kernel
theorem d_X12_goesInto_28 : decode cX12_goesInto 28 = .ok (.lload_n 3, 1) := by decide +kernel
theorem d_X12_goesInto_29 : decode cX12_goesInto 29 = .ok (.lastore, 1) := by decide +kernel
theorem d_X12_goesInto_30 : decode cX12_goesInto 30 = .ok (.aload_n 0, 1) := by decide +kernel
theorem d_X12_goesInto_31 : decode cX12_goesInto 31 = .ok (.dup, 1) := by decide +kernel
theorem d_X12_goesInto_32 : decode cX12_goesInto 32 = .ok (.getfield 463, 3) := by decide +kernel
theorem d_X12_goesInto_35 : decode cX12_goesInto 35 = .ok (.iconst 1, 1) := by decide +kernel
theorem d_X12_goesInto_36 : decode cX12_goesInto 36 = .ok (.iadd, 1) := by decide +kernel
theorem d_X12_goesInto_37 : decode cX12_goesInto 37 = .ok (.putfield 463, 3) := by decide +kernel
theorem d_X12_goesInto_40 : decode cX12_goesInto 40 = .ok (.return_, 1) := by decide +kernel
def f_X12_goesInto_30 (S : Mem) : Option (Unit × Mem) := (some ((), (sI S 20 50 ((gI S 20 50) + 1))))
set_option maxRecDepth 20000 in
theorem t_X12_goesInto_30 {X : MC} {Γ : GG} (C : CX X Γ cX12_goesInto 5 "TickPoolsModel" 0 0) (hr : X.2.2.2.2.2.2.2.2.1.sig.returnType = none) {q : Unit × Mem} (S : Mem) (hf : f_X12_goesInto_30 S = some q) : ZZ X Γ 5 (QQ X Γ none q.2) S 30 [(0, aR 20)] [] := by
  unfold f_X12_goesInto_30 at hf
  refine z_aload_n (j := 0) C d_X12_goesInto_30 rfl ?_
  refine z_dup C d_X12_goesInto_31 rfl ?_
  refine zg_X12_deep C rfl tw_1261 d_X12_goesInto_32 ?_
  refine z_iconst (v := 1) C d_X12_goesInto_35 (by decide) ?_
  refine z_iadd C d_X12_goesInto_36 ?_
  refine zp_X12_deep C rfl tw_1261 d_X12_goesInto_37 ?_
  exact r_v C hr d_X12_goesInto_40 hf
/-- TickPoolsModel.goesInto(IIJ)V -/
def f_X12_goesInto (p1 : Int32) (p2 : Int32) (p3 : Int64) (S : Mem) : Option (Unit × Mem) := (if inb (gI S 20 50) 4 = true then (if inb (gI (sI S 35 (((gI S 20 50) : Int32).toNatClampNeg) p1) 20 50) 4 = true then (if inb (gI (sI (sI S 35 (((gI S 20 50) : Int32).toNatClampNeg) p1) 36 (((gI (sI S 35 (((gI S 20 50) : Int32).toNatClampNeg) p1) 20 50) : Int32).toNatClampNeg) p2) 20 50) 4 = true then (f_X12_goesInto_30  (sL (sI (sI S 35 (((gI S 20 50) : Int32).toNatClampNeg) p1) 36 (((gI (sI S 35 (((gI S 20 50) : Int32).toNatClampNeg) p1) 20 50) : Int32).toNatClampNeg) p2) 37 (((gI (sI (sI S 35 (((gI S 20 50) : Int32).toNatClampNeg) p1) 36 (((gI (sI S 35 (((gI S 20 50) : Int32).toNatClampNeg) p1) 20 50) : Int32).toNatClampNeg) p2) 20 50) : Int32).toNatClampNeg) p3)) else none) else none) else none)
set_option maxRecDepth 20000 in
theorem c_X12_goesInto {l : Launch} {Γ : GG} (hI : Inj Γ) {p1 : Int32} {p2 : Int32} {p3 : Int64} {S : Mem} {q : Unit × Mem} (hf : f_X12_goesInto p1 p2 p3 S = some q) : MM l Γ yX12_goesInto cX12_goesInto 5 (none) 0 0 [aR 20, aI p1, aI p2, aJ p3] S none q.2 := by
  refine met_of hI "TickPoolsModel" rfl (by decide +kernel) (Nat.le_of_ble_eq_true rfl) (fun X hX C hr => ?_)
  unfold f_X12_goesInto at hf
  show ZZ X Γ 5 _ S 0 [(0, aR 20), (1, aI p1), (2, aI p2), (3, aJ p3)] []
  refine z_aload_n (j := 0) C d_X12_goesInto_0 rfl ?_
  refine zg_X12_within C rfl tw_1258 d_X12_goesInto_1 ?_
  refine z_aload_n (j := 0) C d_X12_goesInto_4 rfl ?_
  refine zg_X12_deep C rfl tw_1261 d_X12_goesInto_5 ?_
  refine z_iload_n (j := 1) C d_X12_goesInto_8 rfl ?_
  obtain ⟨hi9_0, hf⟩ := gd hf
  refine z_iast C rfl hi9_0 d_X12_goesInto_9 ?_
  refine z_aload_n (j := 0) C d_X12_goesInto_10 rfl ?_
  refine zg_X12_turns C rfl tw_1259 d_X12_goesInto_11 ?_
  refine z_aload_n (j := 0) C d_X12_goesInto_14 rfl ?_
  refine zg_X12_deep C rfl tw_1261 d_X12_goesInto_15 ?_
  refine z_iload_n (j := 2) C d_X12_goesInto_18 rfl ?_
  obtain ⟨hi19_1, hf⟩ := gd hf
  refine z_iast C rfl hi19_1 d_X12_goesInto_19 ?_
  refine z_aload_n (j := 0) C d_X12_goesInto_20 rfl ?_
  refine zg_X12_lent C rfl tw_1260 d_X12_goesInto_21 ?_
  refine z_aload_n (j := 0) C d_X12_goesInto_24 rfl ?_
  refine zg_X12_deep C rfl tw_1261 d_X12_goesInto_25 ?_
  refine z_lload_n (j := 3) C d_X12_goesInto_28 rfl ?_
  obtain ⟨hi29_2, hf⟩ := gd hf
  refine z_last C rfl hi29_2 d_X12_goesInto_29 ?_
  exact z_sub [0] rfl (t_X12_goesInto_30 C hr  _ hf)
theorem d_X12_lends_0 : decode cX12_lends 0 = .ok (.aload_n 0, 1) := by decide +kernel
theorem d_X12_lends_1 : decode cX12_lends 1 = .ok (.getfield 80, 3) := by decide +kernel
theorem d_X12_lends_4 : decode cX12_lends 4 = .ok (.iconst 4, 1) := by decide +kernel
theorem d_X12_lends_5 : decode cX12_lends 5 = .ok (.iload_n 1, 1) := by decide +kernel
theorem d_X12_lends_6 : decode cX12_lends 6 = .ok (.imul, 1) := by decide +kernel
theorem d_X12_lends_7 : decode cX12_lends 7 = .ok (.iaload, 1) := by decide +kernel
theorem d_X12_lends_8 : decode cX12_lends 8 = .ok (.istore_n 2, 1) := by decide +kernel
theorem d_X12_lends_9 : decode cX12_lends 9 = .ok (.aload_n 0, 1) := by decide +kernel
theorem d_X12_lends_10 : decode cX12_lends 10 = .ok (.getfield 80, 3) := by decide +kernel
theorem d_X12_lends_13 : decode cX12_lends 13 = .ok (.iconst 4, 1) := by decide +kernel
theorem d_X12_lends_14 : decode cX12_lends 14 = .ok (.iload_n 1, 1) := by decide +kernel
theorem d_X12_lends_15 : decode cX12_lends 15 = .ok (.imul, 1) := by decide +kernel
theorem d_X12_lends_16 : decode cX12_lends 16 = .ok (.iconst 1, 1) := by decide +kernel
theorem d_X12_lends_17 : decode cX12_lends 17 = .ok (.iadd, 1) := by decide +kernel
theorem d_X12_lends_18 : decode cX12_lends 18 = .ok (.iaload, 1) := by decide +kernel
theorem d_X12_lends_19 : decode cX12_lends 19 = .ok (.istore_n 3, 1) := by decide +kernel
theorem d_X12_lends_20 : decode cX12_lends 20 = .ok (.aload_n 0, 1) := by decide +kernel
theorem d_X12_lends_21 : decode cX12_lends 21 = .ok (.iload_n 2, 1) := by decide +kernel
theorem d_X12_lends_22 : decode cX12_lends 22 = .ok (.invokevirtual 446, 3) := by decide +kernel
theorem d_X12_lends_25 : decode cX12_lends 25 = .ok (.ifCond .ne 10, 3) := by decide +kernel
theorem d_X12_lends_28 : decode cX12_lends 28 = .ok (.aload_n 0, 1) := by decide +kernel
theorem d_X12_lends_29 : decode cX12_lends 29 = .ok (.iconst 5, 1) := by decide +kernel
theorem d_X12_lends_30 : decode cX12_lends 30 = .ok (.iload_n 1, 1) := by decide +kernel
theorem d_X12_lends_31 : decode cX12_lends 31 = .ok (.invokevirtual 449, 3) := by decide +kernel
theorem d_X12_lends_34 : decode cX12_lends 34 = .ok (.ireturn, 1) := by decide +kernel
theorem d_X12_lends_35 : decode cX12_lends 35 = .ok (.aload_n 0, 1) := by decide +kernel
theorem d_X12_lends_36 : decode cX12_lends 36 = .ok (.iload_n 1, 1) := by decide +kernel
theorem d_X12_lends_37 : decode cX12_lends 37 = .ok (.invokevirtual 452, 3) := by decide +kernel
theorem d_X12_lends_40 : decode cX12_lends 40 = .ok (.lstore 4, 2) := by decide +kernel
theorem d_X12_lends_42 : decode cX12_lends 42 = .ok (.lload 4, 2) := by decide +kernel
theorem d_X12_lends_44 : decode cX12_lends 44 = .ok (.lconst 1, 1) := by decide +kernel
theorem d_X12_lends_45 : decode cX12_lends 45 = .ok (.aload_n 0, 1) := by decide +kernel
theorem d_X12_lends_46 : decode cX12_lends 46 = .ok (.iload_n 2, 1) := by decide +kernel
theorem d_X12_lends_47 : decode cX12_lends 47 = .ok (.iconst 2, 1) := by decide +kernel
theorem d_X12_lends_48 : decode cX12_lends 48 = .ok (.iload_n 3, 1) := by decide +kernel
theorem d_X12_lends_49 : decode cX12_lends 49 = .ok (.iadd, 1) := by decide +kernel
theorem d_X12_lends_50 : decode cX12_lends 50 = .ok (.invokevirtual 116, 3) := by decide +kernel
theorem d_X12_lends_53 : decode cX12_lends 53 = .ok (.invokestatic 137, 3) := by decide +kernel
theorem d_X12_lends_56 : decode cX12_lends 56 = .ok (.ifCond .eq 18, 3) := by decide +kernel
theorem d_X12_lends_59 : decode cX12_lends 59 = .ok (.aload_n 0, 1) := by decide +kernel
theorem d_X12_lends_60 : decode cX12_lends 60 = .ok (.iload_n 2, 1) := by decide +kernel
theorem d_X12_lends_61 : decode cX12_lends 61 = .ok (.aload_n 0, 1) := by decide +kernel
theorem d_X12_lends_62 : decode cX12_lends 62 = .ok (.iload_n 2, 1) := by decide +kernel
theorem d_X12_lends_63 : decode cX12_lends 63 = .ok (.invokevirtual 228, 3) := by decide +kernel
theorem d_X12_lends_66 : decode cX12_lends 66 = .ok (.invokevirtual 316, 3) := by decide +kernel
theorem d_X12_lends_69 : decode cX12_lends 69 = .ok (.lconst 0, 1) := by decide +kernel
theorem d_X12_lends_70 : decode cX12_lends 70 = .ok (.lcmp, 1) := by decide +kernel
theorem d_X12_lends_71 : decode cX12_lends 71 = .ok (.ifCond .ne 10, 3) := by decide +kernel
theorem d_X12_lends_74 : decode cX12_lends 74 = .ok (.aload_n 0, 1) := by decide +kernel
theorem d_X12_lends_75 : decode cX12_lends 75 = .ok (.iconst 5, 1) := by decide +kernel
theorem d_X12_lends_76 : decode cX12_lends 76 = .ok (.iload_n 1, 1) := by decide +kernel
theorem d_X12_lends_77 : decode cX12_lends 77 = .ok (.invokevirtual 449, 3) := by decide +kernel
theorem d_X12_lends_80 : decode cX12_lends 80 = .ok (.ireturn, 1) := by decide +kernel
theorem d_X12_lends_81 : decode cX12_lends 81 = .ok (.aload_n 0, 1) := by decide +kernel
theorem d_X12_lends_82 : decode cX12_lends 82 = .ok (.iload_n 2, 1) := by decide +kernel
theorem d_X12_lends_83 : decode cX12_lends 83 = .ok (.aload_n 0, 1) := by decide +kernel
theorem d_X12_lends_84 : decode cX12_lends 84 = .ok (.getfield 443, 3) := by decide +kernel
theorem d_X12_lends_87 : decode cX12_lends 87 = .ok (.iload_n 3, 1) := by decide +kernel
theorem d_X12_lends_88 : decode cX12_lends 88 = .ok (.lload 4, 2) := by decide +kernel
theorem d_X12_lends_90 : decode cX12_lends 90 = .ok (.invokevirtual 263, 3) := by decide +kernel
theorem d_X12_lends_93 : decode cX12_lends 93 = .ok (.aload_n 0, 1) := by decide +kernel
theorem d_X12_lends_94 : decode cX12_lends 94 = .ok (.dup, 1) := by decide +kernel
theorem d_X12_lends_95 : decode cX12_lends 95 = .ok (.getfield 437, 3) := by decide +kernel
theorem d_X12_lends_98 : decode cX12_lends 98 = .ok (.iconst 1, 1) := by decide +kernel
theorem d_X12_lends_99 : decode cX12_lends 99 = .ok (.iload_n 2, 1) := by decide +kernel
theorem d_X12_lends_100 : decode cX12_lends 100 = .ok (.ishl, 1) := by decide +kernel
theorem d_X12_lends_101 : decode cX12_lends 101 = .ok (.ior, 1) := by decide +kernel
theorem d_X12_lends_102 : decode cX12_lends 102 = .ok (.putfield 437, 3) := by decide +kernel
theorem d_X12_lends_105 : decode cX12_lends 105 = .ok (.aload_n 0, 1) := by decide +kernel
theorem d_X12_lends_106 : decode cX12_lends 106 = .ok (.iload_n 1, 1) := by decide +kernel
theorem d_X12_lends_107 : decode cX12_lends 107 = .ok (.iconst 1, 1) := by decide +kernel
theorem d_X12_lends_108 : decode cX12_lends 108 = .ok (.lload 4, 2) := by decide +kernel
theorem d_X12_lends_110 : decode cX12_lends 110 = .ok (.invokevirtual 466, 3) := by decide +kernel
theorem d_X12_lends_113 : decode cX12_lends 113 = .ok (.iconst 1, 1) := by decide +kernel
theorem d_X12_lends_114 : decode cX12_lends 114 = .ok (.ireturn, 1) := by decide +kernel
def f_X12_lends_74 (v1 : Int32) (S : Mem) : Option (Int32 × Mem) := ((f_X12_stops 5 v1 S).bind fun q77 => (if isB q77.1 = true then (some (q77.1, q77.2)) else none))
set_option maxRecDepth 20000 in
theorem t_X12_lends_74 {X : MC} {Γ : GG} (C : CX X Γ cX12_lends 6 "TickPoolsModel" 3 70) (hr : X.2.2.2.2.2.2.2.2.1.sig.returnType = some .boolean) {q : Int32 × Mem} (v1 : Int32) (S : Mem) (hf : f_X12_lends_74 v1 S = some q) : ZZ X Γ 6 (QQ X Γ (some (aI q.1)) q.2) S 74 [(0, aR 20), (1, aI v1)] [] := by
  unfold f_X12_lends_74 at hf
  refine z_aload_n (j := 0) C d_X12_lends_74 rfl ?_
  refine z_iconst (v := 5) C d_X12_lends_75 (by decide) ?_
  refine z_iload_n (j := 1) C d_X12_lends_76 rfl ?_
  obtain ⟨q77, hF, hf⟩ := bd hf
  refine z_callV1 (rest := []) C [aI 5, aI v1] rfl (by decide) rfl rfl k_X12_stops tw_1725 ⟨by decide, by decide⟩ (Nat.le_of_ble_eq_true rfl) d_X12_lends_77 (c_X12_stops C.inj hF) rfl ?_
  obtain ⟨hb80_1, hf⟩ := gd hf
  exact r_i C hr (isB_nar hb80_1).1 d_X12_lends_80 hf
def f_X12_lends_20 (v1 : Int32) (v2 : Int32) (v3 : Int32) (S : Mem) : Option (Int32 × Mem) := ((f_X12_isOpen v2 S).bind fun q22 => (if q22.1 = 0 then ((f_X12_stops 5 v1 q22.2).bind fun q31 => (if isB q31.1 = true then (some (q31.1, q31.2)) else none)) else ((f_X12_muchOf v1 q22.2).bind fun q37 => ((f_X12_ofPool v2 (2 + v3) q37.2).bind fun q50 => ((f_X12_isIn q37.1 1 q50.1 q50.2).bind fun q53 => (if q53.1 = 0 then (f_X12_lends_74  v1 q53.2) else ((f_X12_zoneNow v2 q53.2).bind fun q63 => ((f_X12_depthOf v2 q63.1 q63.2).bind fun q66 => (if q66.1 = 0 then (f_X12_lends_74  v1 q66.2) else ((f_X12_goesOut v2 (gI q66.2 20 43) v3 q37.1 q66.2).bind fun q90 => ((f_X12_goesInto v1 1 q37.1 (sI q90.2 20 46 ((gI q90.2 20 46) ||| (1 <<< (v2 &&& 31))))).bind fun q110 => (some (1, q110.2)))))))))))))
set_option maxRecDepth 20000 in
theorem t_X12_lends_20 {X : MC} {Γ : GG} (C : CX X Γ cX12_lends 6 "TickPoolsModel" 3 70) (hr : X.2.2.2.2.2.2.2.2.1.sig.returnType = some .boolean) {q : Int32 × Mem} (v1 : Int32) (v2 : Int32) (v3 : Int32) (S : Mem) (hf : f_X12_lends_20 v1 v2 v3 S = some q) : ZZ X Γ 6 (QQ X Γ (some (aI q.1)) q.2) S 20 [(0, aR 20), (1, aI v1), (2, aI v2), (3, aI v3)] [] := by
  unfold f_X12_lends_20 at hf
  refine z_aload_n (j := 0) C d_X12_lends_20 rfl ?_
  refine z_iload_n (j := 2) C d_X12_lends_21 rfl ?_
  obtain ⟨q22, hF, hf⟩ := bd hf
  refine z_callV1 (rest := []) C [aI v2] rfl (by decide) rfl rfl k_X12_isOpen tw_1737 ⟨by decide, by decide⟩ (Nat.le_of_ble_eq_true rfl) d_X12_lends_22 (c_X12_isOpen C.inj hF) rfl ?_
  refine z_if_ne (tgt := 35) C d_X12_lends_25 (by decide) hf (fun c25 hf => ?_) (fun c25 hf => ?_)
  · refine z_aload_n (j := 0) C d_X12_lends_35 rfl ?_
    refine z_iload_n (j := 1) C d_X12_lends_36 rfl ?_
    obtain ⟨q37, hF, hf⟩ := bd hf
    refine z_callV1 (rest := []) C [aI v1] rfl (by decide) rfl rfl k_X12_muchOf tw_1741 ⟨by decide, by decide⟩ (Nat.le_of_ble_eq_true rfl) d_X12_lends_37 (c_X12_muchOf C.inj hF) rfl ?_
    refine z_lstore (lv' := [(4, aJ q37.1), (0, aR 20), (1, aI v1), (2, aI v2), (3, aI v3)]) C d_X12_lends_40 (by decide) rfl ?_
    refine z_lload (j := 0) C d_X12_lends_42 rfl ?_
    refine z_lconst (v := 1) C d_X12_lends_44 (by decide) ?_
    refine z_aload_n (j := 1) C d_X12_lends_45 rfl ?_
    refine z_iload_n (j := 3) C d_X12_lends_46 rfl ?_
    refine z_iconst (v := 2) C d_X12_lends_47 (by decide) ?_
    refine z_iload_n (j := 4) C d_X12_lends_48 rfl ?_
    refine z_iadd C d_X12_lends_49 ?_
    obtain ⟨q50, hF, hf⟩ := bd hf
    refine z_callV1 (rest := [aJ 1, aJ q37.1]) C [aI v2, aI (2 + v3)] rfl (by decide) rfl rfl k_X12_ofPool tw_1503 ⟨by decide, by decide⟩ (Nat.le_of_ble_eq_true rfl) d_X12_lends_50 (c_X12_ofPool C.inj hF) rfl ?_
    obtain ⟨q53, hF, hf⟩ := bd hf
    refine z_callS1 (rest := []) C [aJ q37.1, aJ 1, aJ q50.1] k_X12_isIn tw_1385 ⟨by decide, by decide⟩ (Nat.le_of_ble_eq_true rfl) d_X12_lends_53 (c_X12_isIn C.inj hF) rfl ?_
    refine z_if_eq (tgt := 74) C d_X12_lends_56 (by decide) hf (fun c56 hf => ?_) (fun c56 hf => ?_)
    · exact z_sub [1, 2] rfl (t_X12_lends_74 C hr  _ _ hf)
    · refine z_aload_n (j := 1) C d_X12_lends_59 rfl ?_
      refine z_iload_n (j := 3) C d_X12_lends_60 rfl ?_
      refine z_aload_n (j := 1) C d_X12_lends_61 rfl ?_
      refine z_iload_n (j := 3) C d_X12_lends_62 rfl ?_
      obtain ⟨q63, hF, hf⟩ := bd hf
      refine z_callV1 (rest := [aI v2, aR 20]) C [aI v2] rfl (by decide) rfl rfl k_X12_zoneNow tw_1499 ⟨by decide, by decide⟩ (Nat.le_of_ble_eq_true rfl) d_X12_lends_63 (c_X12_zoneNow C.inj hF) rfl ?_
      obtain ⟨q66, hF, hf⟩ := bd hf
      refine z_callV1 (rest := []) C [aI v2, aI q63.1] rfl (by decide) rfl rfl k_X12_depthOf tw_1620 ⟨by decide, by decide⟩ (Nat.le_of_ble_eq_true rfl) d_X12_lends_66 (c_X12_depthOf C.inj hF) rfl ?_
      refine z_lconst (v := 0) C d_X12_lends_69 (by decide) ?_
      refine z_lne (tgt := 81) C d_X12_lends_70 d_X12_lends_71 (by decide) hf (fun c70 hf => ?_) (fun c70 hf => ?_)
      · refine z_aload_n (j := 1) C d_X12_lends_81 rfl ?_
        refine z_iload_n (j := 3) C d_X12_lends_82 rfl ?_
        refine z_aload_n (j := 1) C d_X12_lends_83 rfl ?_
        refine zg_X12_who C rfl tw_1254 d_X12_lends_84 ?_
        refine z_iload_n (j := 4) C d_X12_lends_87 rfl ?_
        refine z_lload (j := 0) C d_X12_lends_88 rfl ?_
        obtain ⟨q90, hF, hf⟩ := bd hf
        refine z_callV0 (rest := []) C [aI v2, aI (gI q66.2 20 43), aI v3, aJ q37.1] rfl (by decide) rfl rfl k_X12_goesOut tw_1538 ⟨by decide, by decide⟩ (Nat.le_of_ble_eq_true rfl) d_X12_lends_90 (c_X12_goesOut C.inj hF) rfl ?_
        refine z_aload_n (j := 1) C d_X12_lends_93 rfl ?_
        refine z_dup C d_X12_lends_94 rfl ?_
        refine zg_X12_locked C rfl tw_1257 d_X12_lends_95 ?_
        refine z_iconst (v := 1) C d_X12_lends_98 (by decide) ?_
        refine z_iload_n (j := 3) C d_X12_lends_99 rfl ?_
        refine z_ishl C d_X12_lends_100 ?_
        refine z_ior C d_X12_lends_101 ?_
        refine zp_X12_locked C rfl tw_1257 d_X12_lends_102 ?_
        refine z_aload_n (j := 1) C d_X12_lends_105 rfl ?_
        refine z_iload_n (j := 2) C d_X12_lends_106 rfl ?_
        refine z_iconst (v := 1) C d_X12_lends_107 (by decide) ?_
        refine z_lload (j := 0) C d_X12_lends_108 rfl ?_
        obtain ⟨q110, hF, hf⟩ := bd hf
        refine z_callV0 (rest := []) C [aI v1, aI 1, aJ q37.1] rfl (by decide) rfl rfl k_X12_goesInto tw_1745 ⟨by decide, by decide⟩ (Nat.le_of_ble_eq_true rfl) d_X12_lends_110 (c_X12_goesInto C.inj hF) rfl ?_
        refine z_iconst (v := 1) C d_X12_lends_113 (by decide) ?_
        exact r_i C hr (by decide) d_X12_lends_114 hf
      · exact z_sub [1, 2] rfl (t_X12_lends_74 C hr  _ _ hf)
  · refine z_aload_n (j := 0) C d_X12_lends_28 rfl ?_
    refine z_iconst (v := 5) C d_X12_lends_29 (by decide) ?_
    refine z_iload_n (j := 1) C d_X12_lends_30 rfl ?_
    obtain ⟨q31, hF, hf⟩ := bd hf
    refine z_callV1 (rest := []) C [aI 5, aI v1] rfl (by decide) rfl rfl k_X12_stops tw_1725 ⟨by decide, by decide⟩ (Nat.le_of_ble_eq_true rfl) d_X12_lends_31 (c_X12_stops C.inj hF) rfl ?_
    obtain ⟨hb34_1, hf⟩ := gd hf
    exact r_i C hr (isB_nar hb34_1).1 d_X12_lends_34 hf
def f_X12_lends_9 (v1 : Int32) (v2 : Int32) (S : Mem) : Option (Int32 × Mem) := (if inb ((4 * v1) + 1) 160 = true then (f_X12_lends_20  v1 v2 (gI S 30 ((((4 * v1) + 1) : Int32).toNatClampNeg)) S) else none)
set_option maxRecDepth 20000 in
theorem t_X12_lends_9 {X : MC} {Γ : GG} (C : CX X Γ cX12_lends 6 "TickPoolsModel" 3 70) (hr : X.2.2.2.2.2.2.2.2.1.sig.returnType = some .boolean) {q : Int32 × Mem} (v1 : Int32) (v2 : Int32) (S : Mem) (hf : f_X12_lends_9 v1 v2 S = some q) : ZZ X Γ 6 (QQ X Γ (some (aI q.1)) q.2) S 9 [(0, aR 20), (1, aI v1), (2, aI v2)] [] := by
  unfold f_X12_lends_9 at hf
  refine z_aload_n (j := 0) C d_X12_lends_9 rfl ?_
  refine zg_X12_numbers C rfl tw_1248 d_X12_lends_10 ?_
  refine z_iconst (v := 4) C d_X12_lends_13 (by decide) ?_
  refine z_iload_n (j := 1) C d_X12_lends_14 rfl ?_
  refine z_imul C d_X12_lends_15 ?_
  refine z_iconst (v := 1) C d_X12_lends_16 (by decide) ?_
  refine z_iadd C d_X12_lends_17 ?_
  obtain ⟨hi18_0, hf⟩ := gd hf
  refine z_iald C rfl hi18_0 d_X12_lends_18 ?_
  refine z_istore_n (lv' := [(3, aI (gI S 30 ((((4 * v1) + 1) : Int32).toNatClampNeg))), (0, aR 20), (1, aI v1), (2, aI v2)]) C d_X12_lends_19 (by decide) rfl ?_
  exact z_sub [1, 2, 3, 0] rfl (t_X12_lends_20 C hr  _ _ _ _ hf)
/-- TickPoolsModel.lends(I)Z -/
def f_X12_lends (p1 : Int32) (S : Mem) : Option (Int32 × Mem) := (if inb (4 * p1) 160 = true then (f_X12_lends_9  p1 (gI S 30 (((4 * p1) : Int32).toNatClampNeg)) S) else none)
set_option maxRecDepth 20000 in
theorem c_X12_lends {l : Launch} {Γ : GG} (hI : Inj Γ) {p1 : Int32} {S : Mem} {q : Int32 × Mem} (hf : f_X12_lends p1 S = some q) : MM l Γ yX12_lends cX12_lends 6 (some .boolean) 3 70 [aR 20, aI p1] S (some (aI q.1)) q.2 := by
  refine met_of hI "TickPoolsModel" rfl (by decide +kernel) (Nat.le_of_ble_eq_true rfl) (fun X hX C hr => ?_)
  unfold f_X12_lends at hf
  show ZZ X Γ 6 _ S 0 [(0, aR 20), (1, aI p1)] []
  refine z_aload_n (j := 0) C d_X12_lends_0 rfl ?_
  refine zg_X12_numbers C rfl tw_1248 d_X12_lends_1 ?_
  refine z_iconst (v := 4) C d_X12_lends_4 (by decide) ?_
  refine z_iload_n (j := 1) C d_X12_lends_5 rfl ?_
  refine z_imul C d_X12_lends_6 ?_
  obtain ⟨hi7_0, hf⟩ := gd hf
  refine z_iald C rfl hi7_0 d_X12_lends_7 ?_
  refine z_istore_n (lv' := [(2, aI (gI S 30 (((4 * p1) : Int32).toNatClampNeg))), (0, aR 20), (1, aI p1)]) C d_X12_lends_8 (by decide) rfl ?_
  exact z_sub [1, 2, 0] rfl (t_X12_lends_9 C hr  _ _ _ hf)
theorem d_X12_givesBack_0 : decode cX12_givesBack 0 = .ok (.aload_n 0, 1) := by decide +kernel
theorem d_X12_givesBack_1 : decode cX12_givesBack 1 = .ok (.getfield 80, 3) := by decide +kernel
theorem d_X12_givesBack_4 : decode cX12_givesBack 4 = .ok (.iconst 4, 1) := by decide +kernel
theorem d_X12_givesBack_5 : decode cX12_givesBack 5 = .ok (.iload_n 1, 1) := by decide +kernel
theorem d_X12_givesBack_6 : decode cX12_givesBack 6 = .ok (.imul, 1) := by decide +kernel
theorem d_X12_givesBack_7 : decode cX12_givesBack 7 = .ok (.iaload, 1) := by decide +kernel
theorem d_X12_givesBack_8 : decode cX12_givesBack 8 = .ok (.istore 4, 2) := by decide +kernel
theorem d_X12_givesBack_10 : decode cX12_givesBack 10 = .ok (.aload_n 0, 1) := by decide +kernel
theorem d_X12_givesBack_11 : decode cX12_givesBack 11 = .ok (.getfield 80, 3) := by decide +kernel
theorem d_X12_givesBack_14 : decode cX12_givesBack 14 = .ok (.iconst 4, 1) := by decide +kernel
theorem d_X12_givesBack_15 : decode cX12_givesBack 15 = .ok (.iload_n 1, 1) := by decide +kernel
theorem d_X12_givesBack_16 : decode cX12_givesBack 16 = .ok (.imul, 1) := by decide +kernel
theorem d_X12_givesBack_17 : decode cX12_givesBack 17 = .ok (.iconst 1, 1) := by decide +kernel
theorem d_X12_givesBack_18 : decode cX12_givesBack 18 = .ok (.iadd, 1) := by decide +kernel
theorem d_X12_givesBack_19 : decode cX12_givesBack 19 = .ok (.iaload, 1) := by decide +kernel
theorem d_X12_givesBack_20 : decode cX12_givesBack 20 = .ok (.istore 5, 2) := by decide +kernel
theorem d_X12_givesBack_22 : decode cX12_givesBack 22 = .ok (.aload_n 0, 1) := by decide +kernel
theorem d_X12_givesBack_23 : decode cX12_givesBack 23 = .ok (.dup, 1) := by decide +kernel
theorem d_X12_givesBack_24 : decode cX12_givesBack 24 = .ok (.getfield 437, 3) := by decide +kernel
theorem d_X12_givesBack_27 : decode cX12_givesBack 27 = .ok (.iconst 1, 1) := by decide +kernel
theorem d_X12_givesBack_28 : decode cX12_givesBack 28 = .ok (.iload 4, 2) := by decide +kernel
theorem d_X12_givesBack_30 : decode cX12_givesBack 30 = .ok (.ishl, 1) := by decide +kernel
theorem d_X12_givesBack_31 : decode cX12_givesBack 31 = .ok (.iconst (-1), 1) := by decide +kernel
theorem d_X12_givesBack_32 : decode cX12_givesBack 32 = .ok (.ixor, 1) := by decide +kernel
theorem d_X12_givesBack_33 : decode cX12_givesBack 33 = .ok (.iand, 1) := by decide +kernel
theorem d_X12_givesBack_34 : decode cX12_givesBack 34 = .ok (.putfield 437, 3) := by decide +kernel
theorem d_X12_givesBack_37 : decode cX12_givesBack 37 = .ok (.lload_n 2, 1) := by decide +kernel
theorem d_X12_givesBack_38 : decode cX12_givesBack 38 = .ok (.aload_n 0, 1) := by decide +kernel
theorem d_X12_givesBack_39 : decode cX12_givesBack 39 = .ok (.iload 4, 2) := by decide +kernel
theorem d_X12_givesBack_41 : decode cX12_givesBack 41 = .ok (.invokevirtual 319, 3) := by decide +kernel
theorem d_X12_givesBack_44 : decode cX12_givesBack 44 = .ok (.i2l, 1) := by decide +kernel
theorem d_X12_givesBack_45 : decode cX12_givesBack 45 = .ok (.lmul, 1) := by decide +kernel
theorem d_X12_givesBack_46 : decode cX12_givesBack 46 = .ok (.ldc2_w 329, 3) := by decide +kernel
theorem d_X12_givesBack_49 : decode cX12_givesBack 49 = .ok (.invokestatic 224, 3) := by decide +kernel
theorem d_X12_givesBack_52 : decode cX12_givesBack 52 = .ok (.lstore 6, 2) := by decide +kernel
theorem d_X12_givesBack_54 : decode cX12_givesBack 54 = .ok (.aload_n 0, 1) := by decide +kernel
theorem d_X12_givesBack_55 : decode cX12_givesBack 55 = .ok (.aload_n 0, 1) := by decide +kernel
theorem d_X12_givesBack_56 : decode cX12_givesBack 56 = .ok (.getfield 443, 3) := by decide +kernel
theorem d_X12_givesBack_59 : decode cX12_givesBack 59 = .ok (.aload_n 0, 1) := by decide +kernel
theorem d_X12_givesBack_60 : decode cX12_givesBack 60 = .ok (.iload 4, 2) := by decide +kernel
theorem d_X12_givesBack_62 : decode cX12_givesBack 62 = .ok (.iload 5, 2) := by decide +kernel
theorem d_X12_givesBack_64 : decode cX12_givesBack 64 = .ok (.invokevirtual 256, 3) := by decide +kernel
theorem d_X12_givesBack_67 : decode cX12_givesBack 67 = .ok (.invokevirtual 300, 3) := by decide +kernel
theorem d_X12_givesBack_70 : decode cX12_givesBack 70 = .ok (.lload_n 2, 1) := by decide +kernel
theorem d_X12_givesBack_71 : decode cX12_givesBack 71 = .ok (.lload 6, 2) := by decide +kernel
theorem d_X12_givesBack_73 : decode cX12_givesBack 73 = .ok (.ladd, 1) := by decide +kernel
theorem d_X12_givesBack_74 : decode cX12_givesBack 74 = .ok (.lcmp, 1) := by decide +kernel
theorem d_X12_givesBack_75 : decode cX12_givesBack 75 = .ok (.ifCond .ge 11, 3) := by decide +kernel
theorem d_X12_givesBack_78 : decode cX12_givesBack 78 = .ok (.aload_n 0, 1) := by decide +kernel
theorem d_X12_givesBack_79 : decode cX12_givesBack 79 = .ok (.bipush 7, 2) := by decide +kernel
theorem d_X12_givesBack_81 : decode cX12_givesBack 81 = .ok (.iload_n 1, 1) := by decide +kernel
theorem d_X12_givesBack_82 : decode cX12_givesBack 82 = .ok (.invokevirtual 449, 3) := by decide +kernel
theorem d_X12_givesBack_85 : decode cX12_givesBack 85 = .ok (.ireturn, 1) := by decide +kernel
theorem d_X12_givesBack_86 : decode cX12_givesBack 86 = .ok (.aload_n 0, 1) := by decide +kernel
theorem d_X12_givesBack_87 : decode cX12_givesBack 87 = .ok (.iload 4, 2) := by decide +kernel
theorem d_X12_givesBack_89 : decode cX12_givesBack 89 = .ok (.aload_n 0, 1) := by decide +kernel
theorem d_X12_givesBack_90 : decode cX12_givesBack 90 = .ok (.getfield 443, 3) := by decide +kernel
theorem d_X12_givesBack_93 : decode cX12_givesBack 93 = .ok (.iload 5, 2) := by decide +kernel
theorem d_X12_givesBack_95 : decode cX12_givesBack 95 = .ok (.lload_n 2, 1) := by decide +kernel
theorem d_X12_givesBack_96 : decode cX12_givesBack 96 = .ok (.lneg, 1) := by decide +kernel
theorem d_X12_givesBack_97 : decode cX12_givesBack 97 = .ok (.lload 6, 2) := by decide +kernel
theorem d_X12_givesBack_99 : decode cX12_givesBack 99 = .ok (.lsub, 1) := by decide +kernel
theorem d_X12_givesBack_100 : decode cX12_givesBack 100 = .ok (.invokevirtual 263, 3) := by decide +kernel
theorem d_X12_givesBack_103 : decode cX12_givesBack 103 = .ok (.aload_n 0, 1) := by decide +kernel
theorem d_X12_givesBack_104 : decode cX12_givesBack 104 = .ok (.iload 4, 2) := by decide +kernel
theorem d_X12_givesBack_106 : decode cX12_givesBack 106 = .ok (.iload 5, 2) := by decide +kernel
theorem d_X12_givesBack_108 : decode cX12_givesBack 108 = .ok (.lload 6, 2) := by decide +kernel
theorem d_X12_givesBack_110 : decode cX12_givesBack 110 = .ok (.invokevirtual 346, 3) := by decide +kernel
theorem d_X12_givesBack_113 : decode cX12_givesBack 113 = .ok (.iconst 1, 1) := by decide +kernel
theorem d_X12_givesBack_114 : decode cX12_givesBack 114 = .ok (.ireturn, 1) := by decide +kernel
def f_X12_givesBack_22 (v1 : Int32) (v2 : Int64) (v4 : Int32) (v5 : Int32) (S : Mem) : Option (Int32 × Mem) := ((f_X12_feeOf v4 (sI S 20 46 ((gI S 20 46) &&& ((1 <<< (v4 &&& 31)) ^^^ (-1))))).bind fun q41 => ((f_X12_up (v2 * (q41.1.toInt64)) 1000 q41.2).bind fun q49 => ((f_X12_thingOf v4 v5 q49.2).bind fun q64 => ((f_X12_inPurse (gI q49.2 20 43) q64.1 q64.2).bind fun q67 => (if (v2 + q49.1) ≤ q67.1 then ((f_X12_goesOut v4 (gI q67.2 20 43) v5 ((-v2) - q49.1) q67.2).bind fun q100 => ((f_X12_shares v4 v5 q49.1 q100.2).bind fun q110 => (some (1, q110.2)))) else ((f_X12_stops 7 v1 q67.2).bind fun q82 => (if isB q82.1 = true then (some (q82.1, q82.2)) else none)))))))
set_option maxRecDepth 20000 in
theorem t_X12_givesBack_22 {X : MC} {Γ : GG} (C : CX X Γ cX12_givesBack 8 "TickPoolsModel" 4 100) (hr : X.2.2.2.2.2.2.2.2.1.sig.returnType = some .boolean) {q : Int32 × Mem} (v1 : Int32) (v2 : Int64) (v4 : Int32) (v5 : Int32) (S : Mem) (hf : f_X12_givesBack_22 v1 v2 v4 v5 S = some q) : ZZ X Γ 8 (QQ X Γ (some (aI q.1)) q.2) S 22 [(0, aR 20), (1, aI v1), (2, aJ v2), (4, aI v4), (5, aI v5)] [] := by
  unfold f_X12_givesBack_22 at hf
  refine z_aload_n (j := 0) C d_X12_givesBack_22 rfl ?_
  refine z_dup C d_X12_givesBack_23 rfl ?_
  refine zg_X12_locked C rfl tw_1257 d_X12_givesBack_24 ?_
  refine z_iconst (v := 1) C d_X12_givesBack_27 (by decide) ?_
  refine z_iload (j := 3) C d_X12_givesBack_28 rfl ?_
  refine z_ishl C d_X12_givesBack_30 ?_
  refine z_iconst (v := (-1)) C d_X12_givesBack_31 (by decide) ?_
  refine z_ixor C d_X12_givesBack_32 ?_
  refine z_iand C d_X12_givesBack_33 ?_
  refine zp_X12_locked C rfl tw_1257 d_X12_givesBack_34 ?_
  refine z_lload_n (j := 2) C d_X12_givesBack_37 rfl ?_
  refine z_aload_n (j := 0) C d_X12_givesBack_38 rfl ?_
  refine z_iload (j := 3) C d_X12_givesBack_39 rfl ?_
  obtain ⟨q41, hF, hf⟩ := bd hf
  refine z_callV1 (rest := [aJ v2]) C [aI v4] rfl (by decide) rfl rfl k_X12_feeOf tw_1628 ⟨by decide, by decide⟩ (Nat.le_of_ble_eq_true rfl) d_X12_givesBack_41 (c_X12_feeOf C.inj hF) rfl ?_
  refine z_i2l C d_X12_givesBack_44 ?_
  refine z_lmul C d_X12_givesBack_45 ?_
  refine z_ldc2 (v := 1000) C tw_1632 d_X12_givesBack_46 ?_
  obtain ⟨q49, hF, hf⟩ := bd hf
  refine z_callS1 (rest := []) C [aJ (v2 * (q41.1.toInt64)), aJ 1000] k_X12_up tw_1511 ⟨by decide, by decide⟩ (Nat.le_of_ble_eq_true rfl) d_X12_givesBack_49 (c_X12_up C.inj hF) rfl ?_
  refine z_lstore (lv' := [(6, aJ q49.1), (0, aR 20), (1, aI v1), (2, aJ v2), (4, aI v4), (5, aI v5)]) C d_X12_givesBack_52 (by decide) rfl ?_
  refine z_aload_n (j := 1) C d_X12_givesBack_54 rfl ?_
  refine z_aload_n (j := 1) C d_X12_givesBack_55 rfl ?_
  refine zg_X12_who C rfl tw_1254 d_X12_givesBack_56 ?_
  refine z_aload_n (j := 1) C d_X12_givesBack_59 rfl ?_
  refine z_iload (j := 4) C d_X12_givesBack_60 rfl ?_
  refine z_iload (j := 5) C d_X12_givesBack_62 rfl ?_
  obtain ⟨q64, hF, hf⟩ := bd hf
  refine z_callV1 (rest := [aI (gI q49.2 20 43), aR 20]) C [aI v4, aI v5] rfl (by decide) rfl rfl k_X12_thingOf tw_1517 ⟨by decide, by decide⟩ (Nat.le_of_ble_eq_true rfl) d_X12_givesBack_64 (c_X12_thingOf C.inj hF) rfl ?_
  obtain ⟨q67, hF, hf⟩ := bd hf
  refine z_callV1 (rest := []) C [aI (gI q49.2 20 43), aI q64.1] rfl (by decide) rfl rfl k_X12_inPurse tw_1521 ⟨by decide, by decide⟩ (Nat.le_of_ble_eq_true rfl) d_X12_givesBack_67 (c_X12_inPurse C.inj hF) rfl ?_
  refine z_lload_n (j := 3) C d_X12_givesBack_70 rfl ?_
  refine z_lload (j := 0) C d_X12_givesBack_71 rfl ?_
  refine z_ladd C d_X12_givesBack_73 ?_
  refine z_lge (tgt := 86) C d_X12_givesBack_74 d_X12_givesBack_75 (by decide) hf (fun c74 hf => ?_) (fun c74 hf => ?_)
  · refine z_aload_n (j := 1) C d_X12_givesBack_86 rfl ?_
    refine z_iload (j := 4) C d_X12_givesBack_87 rfl ?_
    refine z_aload_n (j := 1) C d_X12_givesBack_89 rfl ?_
    refine zg_X12_who C rfl tw_1254 d_X12_givesBack_90 ?_
    refine z_iload (j := 5) C d_X12_givesBack_93 rfl ?_
    refine z_lload_n (j := 3) C d_X12_givesBack_95 rfl ?_
    refine z_lneg C d_X12_givesBack_96 ?_
    refine z_lload (j := 0) C d_X12_givesBack_97 rfl ?_
    refine z_lsub C d_X12_givesBack_99 ?_
    obtain ⟨q100, hF, hf⟩ := bd hf
    refine z_callV0 (rest := []) C [aI v4, aI (gI q67.2 20 43), aI v5, aJ ((-v2) - q49.1)] rfl (by decide) rfl rfl k_X12_goesOut tw_1538 ⟨by decide, by decide⟩ (Nat.le_of_ble_eq_true rfl) d_X12_givesBack_100 (c_X12_goesOut C.inj hF) rfl ?_
    refine z_aload_n (j := 1) C d_X12_givesBack_103 rfl ?_
    refine z_iload (j := 4) C d_X12_givesBack_104 rfl ?_
    refine z_iload (j := 5) C d_X12_givesBack_106 rfl ?_
    refine z_lload (j := 0) C d_X12_givesBack_108 rfl ?_
    obtain ⟨q110, hF, hf⟩ := bd hf
    refine z_callV0 (rest := []) C [aI v4, aI v5, aJ q49.1] rfl (by decide) rfl rfl k_X12_shares tw_1649 ⟨by decide, by decide⟩ (Nat.le_of_ble_eq_true rfl) d_X12_givesBack_110 (c_X12_shares C.inj hF) rfl ?_
    refine z_iconst (v := 1) C d_X12_givesBack_113 (by decide) ?_
    exact r_i C hr (by decide) d_X12_givesBack_114 hf
  · refine z_aload_n (j := 1) C d_X12_givesBack_78 rfl ?_
    refine z_bipush (v := 7) C d_X12_givesBack_79 (by decide) ?_
    refine z_iload_n (j := 2) C d_X12_givesBack_81 rfl ?_
    obtain ⟨q82, hF, hf⟩ := bd hf
    refine z_callV1 (rest := []) C [aI 7, aI v1] rfl (by decide) rfl rfl k_X12_stops tw_1725 ⟨by decide, by decide⟩ (Nat.le_of_ble_eq_true rfl) d_X12_givesBack_82 (c_X12_stops C.inj hF) rfl ?_
    obtain ⟨hb85_1, hf⟩ := gd hf
    exact r_i C hr (isB_nar hb85_1).1 d_X12_givesBack_85 hf
def f_X12_givesBack_10 (v1 : Int32) (v2 : Int64) (v4 : Int32) (S : Mem) : Option (Int32 × Mem) := (if inb ((4 * v1) + 1) 160 = true then (f_X12_givesBack_22  v1 v2 v4 (gI S 30 ((((4 * v1) + 1) : Int32).toNatClampNeg)) S) else none)
set_option maxRecDepth 20000 in
theorem t_X12_givesBack_10 {X : MC} {Γ : GG} (C : CX X Γ cX12_givesBack 8 "TickPoolsModel" 4 100) (hr : X.2.2.2.2.2.2.2.2.1.sig.returnType = some .boolean) {q : Int32 × Mem} (v1 : Int32) (v2 : Int64) (v4 : Int32) (S : Mem) (hf : f_X12_givesBack_10 v1 v2 v4 S = some q) : ZZ X Γ 8 (QQ X Γ (some (aI q.1)) q.2) S 10 [(0, aR 20), (1, aI v1), (2, aJ v2), (4, aI v4)] [] := by
  unfold f_X12_givesBack_10 at hf
  refine z_aload_n (j := 0) C d_X12_givesBack_10 rfl ?_
  refine zg_X12_numbers C rfl tw_1248 d_X12_givesBack_11 ?_
  refine z_iconst (v := 4) C d_X12_givesBack_14 (by decide) ?_
  refine z_iload_n (j := 1) C d_X12_givesBack_15 rfl ?_
  refine z_imul C d_X12_givesBack_16 ?_
  refine z_iconst (v := 1) C d_X12_givesBack_17 (by decide) ?_
  refine z_iadd C d_X12_givesBack_18 ?_
  obtain ⟨hi19_0, hf⟩ := gd hf
  refine z_iald C rfl hi19_0 d_X12_givesBack_19 ?_
  refine z_istore (lv' := [(5, aI (gI S 30 ((((4 * v1) + 1) : Int32).toNatClampNeg))), (0, aR 20), (1, aI v1), (2, aJ v2), (4, aI v4)]) C d_X12_givesBack_20 (by decide) rfl ?_
  exact z_sub [1, 2, 3, 4, 0] rfl (t_X12_givesBack_22 C hr  _ _ _ _ _ hf)
/-- TickPoolsModel.givesBack(IJ)Z -/
def f_X12_givesBack (p1 : Int32) (p2 : Int64) (S : Mem) : Option (Int32 × Mem) := (if inb (4 * p1) 160 = true then (f_X12_givesBack_10  p1 p2 (gI S 30 (((4 * p1) : Int32).toNatClampNeg)) S) else none)
set_option maxRecDepth 20000 in
theorem c_X12_givesBack {l : Launch} {Γ : GG} (hI : Inj Γ) {p1 : Int32} {p2 : Int64} {S : Mem} {q : Int32 × Mem} (hf : f_X12_givesBack p1 p2 S = some q) : MM l Γ yX12_givesBack cX12_givesBack 8 (some .boolean) 4 100 [aR 20, aI p1, aJ p2] S (some (aI q.1)) q.2 := by
  refine met_of hI "TickPoolsModel" rfl (by decide +kernel) (Nat.le_of_ble_eq_true rfl) (fun X hX C hr => ?_)
  unfold f_X12_givesBack at hf
  show ZZ X Γ 8 _ S 0 [(0, aR 20), (1, aI p1), (2, aJ p2)] []
  refine z_aload_n (j := 0) C d_X12_givesBack_0 rfl ?_
  refine zg_X12_numbers C rfl tw_1248 d_X12_givesBack_1 ?_
  refine z_iconst (v := 4) C d_X12_givesBack_4 (by decide) ?_
  refine z_iload_n (j := 1) C d_X12_givesBack_5 rfl ?_
  refine z_imul C d_X12_givesBack_6 ?_
  obtain ⟨hi7_0, hf⟩ := gd hf
  refine z_iald C rfl hi7_0 d_X12_givesBack_7 ?_
  refine z_istore (lv' := [(4, aI (gI S 30 (((4 * p1) : Int32).toNatClampNeg))), (0, aR 20), (1, aI p1), (2, aJ p2)]) C d_X12_givesBack_8 (by decide) rfl ?_
  exact z_sub [1, 2, 3, 0] rfl (t_X12_givesBack_10 C hr  _ _ _ _ hf)
theorem d_X12_doesOne_0 : decode cX12_doesOne 0 = .ok (.iconst 4, 1) := by decide +kernel
theorem d_X12_doesOne_1 : decode cX12_doesOne 1 = .ok (.iload_n 1, 1) := by decide +kernel
theorem d_X12_doesOne_2 : decode cX12_doesOne 2 = .ok (.imul, 1) := by decide +kernel
theorem d_X12_doesOne_3 : decode cX12_doesOne 3 = .ok (.istore_n 2, 1) := by decide +kernel
theorem d_X12_doesOne_4 : decode cX12_doesOne 4 = .ok (.aload_n 0, 1) := by decide +kernel
theorem d_X12_doesOne_5 : decode cX12_doesOne 5 = .ok (.getfield 74, 3) := by decide +kernel
theorem d_X12_doesOne_8 : decode cX12_doesOne 8 = .ok (.iload_n 1, 1) := by decide +kernel
theorem d_X12_doesOne_9 : decode cX12_doesOne 9 = .ok (.iaload, 1) := by decide +kernel
theorem d_X12_doesOne_10 : decode cX12_doesOne 10 = .ok (.tableswitch 112 0 3 #[30, 30, 36, 106], 30) := by decide +kernel
theorem d_X12_doesOne_40 : decode cX12_doesOne 40 = .ok (.aload_n 0, 1) := by decide +kernel
theorem d_X12_doesOne_41 : decode cX12_doesOne 41 = .ok (.iload_n 1, 1) := by decide +kernel
theorem d_X12_doesOne_42 : decode cX12_doesOne 42 = .ok (.invokevirtual 469, 3) := by decide +kernel
theorem d_X12_doesOne_45 : decode cX12_doesOne 45 = .ok (.ireturn, 1) := by decide +kernel
theorem d_X12_doesOne_46 : decode cX12_doesOne 46 = .ok (.aload_n 0, 1) := by decide +kernel
theorem d_X12_doesOne_47 : decode cX12_doesOne 47 = .ok (.aload_n 0, 1) := by decide +kernel
theorem d_X12_doesOne_48 : decode cX12_doesOne 48 = .ok (.getfield 80, 3) := by decide +kernel
theorem d_X12_doesOne_51 : decode cX12_doesOne 51 = .ok (.iload_n 2, 1) := by decide +kernel
theorem d_X12_doesOne_52 : decode cX12_doesOne 52 = .ok (.iaload, 1) := by decide +kernel
theorem d_X12_doesOne_53 : decode cX12_doesOne 53 = .ok (.invokevirtual 446, 3) := by decide +kernel
theorem d_X12_doesOne_56 : decode cX12_doesOne 56 = .ok (.ifCond .eq 45, 3) := by decide +kernel
theorem d_X12_doesOne_59 : decode cX12_doesOne 59 = .ok (.aload_n 0, 1) := by decide +kernel
theorem d_X12_doesOne_60 : decode cX12_doesOne 60 = .ok (.aload_n 0, 1) := by decide +kernel
theorem d_X12_doesOne_61 : decode cX12_doesOne 61 = .ok (.getfield 443, 3) := by decide +kernel
theorem d_X12_doesOne_64 : decode cX12_doesOne 64 = .ok (.aload_n 0, 1) := by decide +kernel
theorem d_X12_doesOne_65 : decode cX12_doesOne 65 = .ok (.getfield 80, 3) := by decide +kernel
theorem d_X12_doesOne_68 : decode cX12_doesOne 68 = .ok (.iload_n 2, 1) := by decide +kernel
theorem d_X12_doesOne_69 : decode cX12_doesOne 69 = .ok (.iaload, 1) := by decide +kernel
theorem d_X12_doesOne_70 : decode cX12_doesOne 70 = .ok (.aload_n 0, 1) := by decide +kernel
theorem d_X12_doesOne_71 : decode cX12_doesOne 71 = .ok (.getfield 80, 3) := by decide +kernel
theorem d_X12_doesOne_74 : decode cX12_doesOne 74 = .ok (.iload_n 2, 1) := by decide +kernel
theorem d_X12_doesOne_75 : decode cX12_doesOne 75 = .ok (.iconst 1, 1) := by decide +kernel
theorem d_X12_doesOne_76 : decode cX12_doesOne 76 = .ok (.iadd, 1) := by decide +kernel
theorem d_X12_doesOne_77 : decode cX12_doesOne 77 = .ok (.iaload, 1) := by decide +kernel
theorem d_X12_doesOne_78 : decode cX12_doesOne 78 = .ok (.aload_n 0, 1) := by decide +kernel
theorem d_X12_doesOne_79 : decode cX12_doesOne 79 = .ok (.getfield 80, 3) := by decide +kernel
theorem d_X12_doesOne_82 : decode cX12_doesOne 82 = .ok (.iload_n 2, 1) := by decide +kernel
theorem d_X12_doesOne_83 : decode cX12_doesOne 83 = .ok (.iconst 2, 1) := by decide +kernel
theorem d_X12_doesOne_84 : decode cX12_doesOne 84 = .ok (.iadd, 1) := by decide +kernel
theorem d_X12_doesOne_85 : decode cX12_doesOne 85 = .ok (.iaload, 1) := by decide +kernel
theorem d_X12_doesOne_86 : decode cX12_doesOne 86 = .ok (.iconst 0, 1) := by decide +kernel
theorem d_X12_doesOne_87 : decode cX12_doesOne 87 = .ok (.aload_n 0, 1) := by decide +kernel
theorem d_X12_doesOne_88 : decode cX12_doesOne 88 = .ok (.getfield 80, 3) := by decide +kernel
theorem d_X12_doesOne_91 : decode cX12_doesOne 91 = .ok (.iload_n 2, 1) := by decide +kernel
theorem d_X12_doesOne_92 : decode cX12_doesOne 92 = .ok (.iconst 3, 1) := by decide +kernel
theorem d_X12_doesOne_93 : decode cX12_doesOne 93 = .ok (.iadd, 1) := by decide +kernel
theorem d_X12_doesOne_94 : decode cX12_doesOne 94 = .ok (.iaload, 1) := by decide +kernel
theorem d_X12_doesOne_95 : decode cX12_doesOne 95 = .ok (.invokevirtual 303, 3) := by decide +kernel
theorem d_X12_doesOne_98 : decode cX12_doesOne 98 = .ok (.ifCond .ge 12, 3) := by decide +kernel
theorem d_X12_doesOne_101 : decode cX12_doesOne 101 = .ok (.aload_n 0, 1) := by decide +kernel
theorem d_X12_doesOne_102 : decode cX12_doesOne 102 = .ok (.iconst 5, 1) := by decide +kernel
theorem d_X12_doesOne_103 : decode cX12_doesOne 103 = .ok (.iload_n 1, 1) := by decide +kernel
theorem d_X12_doesOne_104 : decode cX12_doesOne 104 = .ok (.invokevirtual 449, 3) := by decide +kernel
theorem d_X12_doesOne_107 : decode cX12_doesOne 107 = .ok (.ifCond .eq 7, 3) := by decide +kernel
theorem d_X12_doesOne_110 : decode cX12_doesOne 110 = .ok (.iconst 1, 1) := by decide +kernel
theorem d_X12_doesOne_111 : decode cX12_doesOne 111 = .ok (.goto 4, 3) := by decide +kernel
theorem d_X12_doesOne_114 : decode cX12_doesOne 114 = .ok (.iconst 0, 1) := by decide +kernel
theorem d_X12_doesOne_115 : decode cX12_doesOne 115 = .ok (.ireturn, 1) := by decide +kernel
theorem d_X12_doesOne_116 : decode cX12_doesOne 116 = .ok (.aload_n 0, 1) := by decide +kernel
theorem d_X12_doesOne_117 : decode cX12_doesOne 117 = .ok (.iload_n 1, 1) := by decide +kernel
theorem d_X12_doesOne_118 : decode cX12_doesOne 118 = .ok (.invokevirtual 472, 3) := by decide +kernel
theorem d_X12_doesOne_121 : decode cX12_doesOne 121 = .ok (.ireturn, 1) := by decide +kernel
theorem d_X12_doesOne_122 : decode cX12_doesOne 122 = .ok (.aload_n 0, 1) := by decide +kernel
theorem d_X12_doesOne_123 : decode cX12_doesOne 123 = .ok (.aload_n 0, 1) := by decide +kernel
theorem d_X12_doesOne_124 : decode cX12_doesOne 124 = .ok (.getfield 80, 3) := by decide +kernel
theorem d_X12_doesOne_127 : decode cX12_doesOne 127 = .ok (.iload_n 2, 1) := by decide +kernel
theorem d_X12_doesOne_128 : decode cX12_doesOne 128 = .ok (.iaload, 1) := by decide +kernel
theorem d_X12_doesOne_129 : decode cX12_doesOne 129 = .ok (.invokevirtual 475, 3) := by decide +kernel
theorem d_X12_doesOne_132 : decode cX12_doesOne 132 = .ok (.ifCond .eq 30, 3) := by decide +kernel
theorem d_X12_doesOne_135 : decode cX12_doesOne 135 = .ok (.aload_n 0, 1) := by decide +kernel
theorem d_X12_doesOne_136 : decode cX12_doesOne 136 = .ok (.aload_n 0, 1) := by decide +kernel
theorem d_X12_doesOne_137 : decode cX12_doesOne 137 = .ok (.getfield 443, 3) := by decide +kernel
theorem d_X12_doesOne_140 : decode cX12_doesOne 140 = .ok (.aload_n 0, 1) := by decide +kernel
theorem d_X12_doesOne_141 : decode cX12_doesOne 141 = .ok (.getfield 80, 3) := by decide +kernel
theorem d_X12_doesOne_144 : decode cX12_doesOne 144 = .ok (.iload_n 2, 1) := by decide +kernel
theorem d_X12_doesOne_145 : decode cX12_doesOne 145 = .ok (.iaload, 1) := by decide +kernel
theorem d_X12_doesOne_146 : decode cX12_doesOne 146 = .ok (.invokevirtual 300, 3) := by decide +kernel
theorem d_X12_doesOne_149 : decode cX12_doesOne 149 = .ok (.aload_n 0, 1) := by decide +kernel
theorem d_X12_doesOne_150 : decode cX12_doesOne 150 = .ok (.getfield 80, 3) := by decide +kernel
theorem d_X12_doesOne_153 : decode cX12_doesOne 153 = .ok (.iload_n 2, 1) := by decide +kernel
theorem d_X12_doesOne_154 : decode cX12_doesOne 154 = .ok (.iconst 1, 1) := by decide +kernel
theorem d_X12_doesOne_155 : decode cX12_doesOne 155 = .ok (.iadd, 1) := by decide +kernel
theorem d_X12_doesOne_156 : decode cX12_doesOne 156 = .ok (.iaload, 1) := by decide +kernel
theorem d_X12_doesOne_157 : decode cX12_doesOne 157 = .ok (.i2l, 1) := by decide +kernel
theorem d_X12_doesOne_158 : decode cX12_doesOne 158 = .ok (.lcmp, 1) := by decide +kernel
theorem d_X12_doesOne_159 : decode cX12_doesOne 159 = .ok (.ifCond .ge 12, 3) := by decide +kernel
theorem d_X12_doesOne_162 : decode cX12_doesOne 162 = .ok (.aload_n 0, 1) := by decide +kernel
theorem d_X12_doesOne_163 : decode cX12_doesOne 163 = .ok (.iconst 5, 1) := by decide +kernel
theorem d_X12_doesOne_164 : decode cX12_doesOne 164 = .ok (.iload_n 1, 1) := by decide +kernel
theorem d_X12_doesOne_165 : decode cX12_doesOne 165 = .ok (.invokevirtual 449, 3) := by decide +kernel
theorem d_X12_doesOne_168 : decode cX12_doesOne 168 = .ok (.ifCond .eq 7, 3) := by decide +kernel
theorem d_X12_doesOne_171 : decode cX12_doesOne 171 = .ok (.iconst 1, 1) := by decide +kernel
theorem d_X12_doesOne_172 : decode cX12_doesOne 172 = .ok (.goto 4, 3) := by decide +kernel
theorem d_X12_doesOne_175 : decode cX12_doesOne 175 = .ok (.iconst 0, 1) := by decide +kernel
theorem d_X12_doesOne_176 : decode cX12_doesOne 176 = .ok (.ireturn, 1) := by decide +kernel
def f_X12_doesOne_40 (v1 : Int32) (S : Mem) : Option (Int32 × Mem) := ((f_X12_swapsOne v1 S).bind fun q42 => (if isB q42.1 = true then (some (q42.1, q42.2)) else none))
set_option maxRecDepth 20000 in
theorem t_X12_doesOne_40 {X : MC} {Γ : GG} (C : CX X Γ cX12_doesOne 3 "TickPoolsModel" 9 257) (hr : X.2.2.2.2.2.2.2.2.1.sig.returnType = some .boolean) {q : Int32 × Mem} (v1 : Int32) (S : Mem) (hf : f_X12_doesOne_40 v1 S = some q) : ZZ X Γ 3 (QQ X Γ (some (aI q.1)) q.2) S 40 [(0, aR 20), (1, aI v1)] [] := by
  unfold f_X12_doesOne_40 at hf
  refine z_aload_n (j := 0) C d_X12_doesOne_40 rfl ?_
  refine z_iload_n (j := 1) C d_X12_doesOne_41 rfl ?_
  obtain ⟨q42, hF, hf⟩ := bd hf
  refine z_callV1 (rest := []) C [aI v1] rfl (by decide) rfl rfl k_X12_swapsOne tw_1753 ⟨by decide, by decide⟩ (Nat.le_of_ble_eq_true rfl) d_X12_doesOne_42 (c_X12_swapsOne C.inj hF) rfl ?_
  obtain ⟨hb45_1, hf⟩ := gd hf
  exact r_i C hr (isB_nar hb45_1).1 d_X12_doesOne_45 hf
def f_X12_doesOne_115 (s0 : Int32) (S : Mem) : Option (Int32 × Mem) := (if isB s0 = true then (some (s0, S)) else none)
set_option maxRecDepth 20000 in
theorem t_X12_doesOne_115 {X : MC} {Γ : GG} (C : CX X Γ cX12_doesOne 3 "TickPoolsModel" 9 257) (hr : X.2.2.2.2.2.2.2.2.1.sig.returnType = some .boolean) {q : Int32 × Mem} (s0 : Int32) (S : Mem) (hf : f_X12_doesOne_115 s0 S = some q) : ZZ X Γ 3 (QQ X Γ (some (aI q.1)) q.2) S 115 [] [aI s0] := by
  unfold f_X12_doesOne_115 at hf
  obtain ⟨hb115_0, hf⟩ := gd hf
  exact r_i C hr (isB_nar hb115_0).1 d_X12_doesOne_115 hf
def f_X12_doesOne_110 (S : Mem) : Option (Int32 × Mem) := (f_X12_doesOne_115  1 S)
set_option maxRecDepth 20000 in
theorem t_X12_doesOne_110 {X : MC} {Γ : GG} (C : CX X Γ cX12_doesOne 3 "TickPoolsModel" 9 257) (hr : X.2.2.2.2.2.2.2.2.1.sig.returnType = some .boolean) {q : Int32 × Mem} (S : Mem) (hf : f_X12_doesOne_110 S = some q) : ZZ X Γ 3 (QQ X Γ (some (aI q.1)) q.2) S 110 [] [] := by
  unfold f_X12_doesOne_110 at hf
  refine z_iconst (v := 1) C d_X12_doesOne_110 (by decide) ?_
  refine z_goto (tgt := 115) C d_X12_doesOne_111 (by decide) ?_
  exact z_sub [] rfl (t_X12_doesOne_115 C hr  _ _ hf)
def f_X12_doesOne_101 (v1 : Int32) (S : Mem) : Option (Int32 × Mem) := ((f_X12_stops 5 v1 S).bind fun q104 => (if q104.1 = 0 then (f_X12_doesOne_115  0 q104.2) else (f_X12_doesOne_110  q104.2)))
set_option maxRecDepth 20000 in
theorem t_X12_doesOne_101 {X : MC} {Γ : GG} (C : CX X Γ cX12_doesOne 3 "TickPoolsModel" 9 257) (hr : X.2.2.2.2.2.2.2.2.1.sig.returnType = some .boolean) {q : Int32 × Mem} (v1 : Int32) (S : Mem) (hf : f_X12_doesOne_101 v1 S = some q) : ZZ X Γ 3 (QQ X Γ (some (aI q.1)) q.2) S 101 [(0, aR 20), (1, aI v1)] [] := by
  unfold f_X12_doesOne_101 at hf
  refine z_aload_n (j := 0) C d_X12_doesOne_101 rfl ?_
  refine z_iconst (v := 5) C d_X12_doesOne_102 (by decide) ?_
  refine z_iload_n (j := 1) C d_X12_doesOne_103 rfl ?_
  obtain ⟨q104, hF, hf⟩ := bd hf
  refine z_callV1 (rest := []) C [aI 5, aI v1] rfl (by decide) rfl rfl k_X12_stops tw_1725 ⟨by decide, by decide⟩ (Nat.le_of_ble_eq_true rfl) d_X12_doesOne_104 (c_X12_stops C.inj hF) rfl ?_
  refine z_if_eq (tgt := 114) C d_X12_doesOne_107 (by decide) hf (fun c107 hf => ?_) (fun c107 hf => ?_)
  · refine z_iconst (v := 0) C d_X12_doesOne_114 (by decide) ?_
    exact z_sub [] rfl (t_X12_doesOne_115 C hr  _ _ hf)
  · exact z_sub [] rfl (t_X12_doesOne_110 C hr  _ hf)
def f_X12_doesOne_176 (s0 : Int32) (S : Mem) : Option (Int32 × Mem) := (if isB s0 = true then (some (s0, S)) else none)
set_option maxRecDepth 20000 in
theorem t_X12_doesOne_176 {X : MC} {Γ : GG} (C : CX X Γ cX12_doesOne 3 "TickPoolsModel" 9 257) (hr : X.2.2.2.2.2.2.2.2.1.sig.returnType = some .boolean) {q : Int32 × Mem} (s0 : Int32) (S : Mem) (hf : f_X12_doesOne_176 s0 S = some q) : ZZ X Γ 3 (QQ X Γ (some (aI q.1)) q.2) S 176 [] [aI s0] := by
  unfold f_X12_doesOne_176 at hf
  obtain ⟨hb176_0, hf⟩ := gd hf
  exact r_i C hr (isB_nar hb176_0).1 d_X12_doesOne_176 hf
def f_X12_doesOne_171 (S : Mem) : Option (Int32 × Mem) := (f_X12_doesOne_176  1 S)
set_option maxRecDepth 20000 in
theorem t_X12_doesOne_171 {X : MC} {Γ : GG} (C : CX X Γ cX12_doesOne 3 "TickPoolsModel" 9 257) (hr : X.2.2.2.2.2.2.2.2.1.sig.returnType = some .boolean) {q : Int32 × Mem} (S : Mem) (hf : f_X12_doesOne_171 S = some q) : ZZ X Γ 3 (QQ X Γ (some (aI q.1)) q.2) S 171 [] [] := by
  unfold f_X12_doesOne_171 at hf
  refine z_iconst (v := 1) C d_X12_doesOne_171 (by decide) ?_
  refine z_goto (tgt := 176) C d_X12_doesOne_172 (by decide) ?_
  exact z_sub [] rfl (t_X12_doesOne_176 C hr  _ _ hf)
def f_X12_doesOne_162 (v1 : Int32) (S : Mem) : Option (Int32 × Mem) := ((f_X12_stops 5 v1 S).bind fun q165 => (if q165.1 = 0 then (f_X12_doesOne_176  0 q165.2) else (f_X12_doesOne_171  q165.2)))
set_option maxRecDepth 20000 in
theorem t_X12_doesOne_162 {X : MC} {Γ : GG} (C : CX X Γ cX12_doesOne 3 "TickPoolsModel" 9 257) (hr : X.2.2.2.2.2.2.2.2.1.sig.returnType = some .boolean) {q : Int32 × Mem} (v1 : Int32) (S : Mem) (hf : f_X12_doesOne_162 v1 S = some q) : ZZ X Γ 3 (QQ X Γ (some (aI q.1)) q.2) S 162 [(0, aR 20), (1, aI v1)] [] := by
  unfold f_X12_doesOne_162 at hf
  refine z_aload_n (j := 0) C d_X12_doesOne_162 rfl ?_
  refine z_iconst (v := 5) C d_X12_doesOne_163 (by decide) ?_
  refine z_iload_n (j := 1) C d_X12_doesOne_164 rfl ?_
  obtain ⟨q165, hF, hf⟩ := bd hf
  refine z_callV1 (rest := []) C [aI 5, aI v1] rfl (by decide) rfl rfl k_X12_stops tw_1725 ⟨by decide, by decide⟩ (Nat.le_of_ble_eq_true rfl) d_X12_doesOne_165 (c_X12_stops C.inj hF) rfl ?_
  refine z_if_eq (tgt := 175) C d_X12_doesOne_168 (by decide) hf (fun c168 hf => ?_) (fun c168 hf => ?_)
  · refine z_iconst (v := 0) C d_X12_doesOne_175 (by decide) ?_
    exact z_sub [] rfl (t_X12_doesOne_176 C hr  _ _ hf)
  · exact z_sub [] rfl (t_X12_doesOne_171 C hr  _ hf)
def f_X12_doesOne_4 (v1 : Int32) (v2 : Int32) (S : Mem) : Option (Int32 × Mem) := (if inb v1 40 = true then (if (gI S 28 ((v1 : Int32).toNatClampNeg)) = 0 then (f_X12_doesOne_40  v1 S) else (if (gI S 28 ((v1 : Int32).toNatClampNeg)) = 1 then (f_X12_doesOne_40  v1 S) else (if (gI S 28 ((v1 : Int32).toNatClampNeg)) = 2 then (if inb v2 160 = true then ((f_X12_isOpen (gI S 30 ((v2 : Int32).toNatClampNeg)) S).bind fun q53 => (if q53.1 = 0 then (f_X12_doesOne_101  v1 q53.2) else (if inb v2 160 = true then (if inb (v2 + 1) 160 = true then (if inb (v2 + 2) 160 = true then (if inb (v2 + 3) 160 = true then ((f_X12_adds (gI q53.2 20 43) (gI q53.2 30 ((v2 : Int32).toNatClampNeg)) (gI q53.2 30 (((v2 + 1) : Int32).toNatClampNeg)) (gI q53.2 30 (((v2 + 2) : Int32).toNatClampNeg)) 0 (gI q53.2 30 (((v2 + 3) : Int32).toNatClampNeg)) q53.2).bind fun q95 => (if 0 ≤ q95.1 then (f_X12_doesOne_110  q95.2) else (f_X12_doesOne_101  v1 q95.2))) else none) else none) else none) else none))) else none) else (if (gI S 28 ((v1 : Int32).toNatClampNeg)) = 3 then ((f_X12_dropsOne v1 S).bind fun q118 => (if isB q118.1 = true then (some (q118.1, q118.2)) else none)) else (if inb v2 160 = true then ((f_X12_isThing (gI S 30 ((v2 : Int32).toNatClampNeg)) S).bind fun q129 => (if q129.1 = 0 then (f_X12_doesOne_162  v1 q129.2) else (if inb v2 160 = true then ((f_X12_inPurse (gI q129.2 20 43) (gI q129.2 30 ((v2 : Int32).toNatClampNeg)) q129.2).bind fun q146 => (if inb (v2 + 1) 160 = true then (if (((gI q146.2 30 (((v2 + 1) : Int32).toNatClampNeg)) : Int32).toInt64) ≤ q146.1 then (f_X12_doesOne_171  q146.2) else (f_X12_doesOne_162  v1 q146.2)) else none)) else none))) else none))))) else none)
set_option maxRecDepth 20000 in
theorem t_X12_doesOne_4 {X : MC} {Γ : GG} (C : CX X Γ cX12_doesOne 3 "TickPoolsModel" 9 257) (hr : X.2.2.2.2.2.2.2.2.1.sig.returnType = some .boolean) {q : Int32 × Mem} (v1 : Int32) (v2 : Int32) (S : Mem) (hf : f_X12_doesOne_4 v1 v2 S = some q) : ZZ X Γ 3 (QQ X Γ (some (aI q.1)) q.2) S 4 [(0, aR 20), (1, aI v1), (2, aI v2)] [] := by
  unfold f_X12_doesOne_4 at hf
  refine z_aload_n (j := 0) C d_X12_doesOne_4 rfl ?_
  refine zg_X12_kind C rfl tw_1246 d_X12_doesOne_5 ?_
  refine z_iload_n (j := 1) C d_X12_doesOne_8 rfl ?_
  obtain ⟨hi9_0, hf⟩ := gd hf
  refine z_iald C rfl hi9_0 d_X12_doesOne_9 ?_
  by_cases c10_0 : (gI S 28 ((v1 : Int32).toNatClampNeg)) = 0
  · rw [if_pos c10_0] at hf
    refine z_tin (tgt := 40) C d_X12_doesOne_10 (by rw [c10_0]; decide) (by rw [c10_0]; decide) (by rw [c10_0]; rfl) (by decide) ?_
    exact z_sub [0, 1] rfl (t_X12_doesOne_40 C hr  _ _ hf)
  rw [if_neg c10_0] at hf
  have d10_0 := tn (n := 0) c10_0 (by decide)
  by_cases c10_1 : (gI S 28 ((v1 : Int32).toNatClampNeg)) = 1
  · rw [if_pos c10_1] at hf
    refine z_tin (tgt := 40) C d_X12_doesOne_10 (by rw [c10_1]; decide) (by rw [c10_1]; decide) (by rw [c10_1]; rfl) (by decide) ?_
    exact z_sub [0, 1] rfl (t_X12_doesOne_40 C hr  _ _ hf)
  rw [if_neg c10_1] at hf
  have d10_1 := tn (n := 1) c10_1 (by decide)
  by_cases c10_2 : (gI S 28 ((v1 : Int32).toNatClampNeg)) = 2
  · rw [if_pos c10_2] at hf
    refine z_tin (tgt := 46) C d_X12_doesOne_10 (by rw [c10_2]; decide) (by rw [c10_2]; decide) (by rw [c10_2]; rfl) (by decide) ?_
    refine z_aload_n (j := 0) C d_X12_doesOne_46 rfl ?_
    refine z_aload_n (j := 0) C d_X12_doesOne_47 rfl ?_
    refine zg_X12_numbers C rfl tw_1248 d_X12_doesOne_48 ?_
    refine z_iload_n (j := 2) C d_X12_doesOne_51 rfl ?_
    obtain ⟨hi52_0, hf⟩ := gd hf
    refine z_iald C rfl hi52_0 d_X12_doesOne_52 ?_
    obtain ⟨q53, hF, hf⟩ := bd hf
    refine z_callV1 (rest := []) C [aI (gI S 30 ((v2 : Int32).toNatClampNeg))] rfl (by decide) rfl rfl k_X12_isOpen tw_1737 ⟨by decide, by decide⟩ (Nat.le_of_ble_eq_true rfl) d_X12_doesOne_53 (c_X12_isOpen C.inj hF) rfl ?_
    refine z_if_eq (tgt := 101) C d_X12_doesOne_56 (by decide) hf (fun c56 hf => ?_) (fun c56 hf => ?_)
    · exact z_sub [0, 1] rfl (t_X12_doesOne_101 C hr  _ _ hf)
    · refine z_aload_n (j := 0) C d_X12_doesOne_59 rfl ?_
      refine z_aload_n (j := 0) C d_X12_doesOne_60 rfl ?_
      refine zg_X12_who C rfl tw_1254 d_X12_doesOne_61 ?_
      refine z_aload_n (j := 0) C d_X12_doesOne_64 rfl ?_
      refine zg_X12_numbers C rfl tw_1248 d_X12_doesOne_65 ?_
      refine z_iload_n (j := 2) C d_X12_doesOne_68 rfl ?_
      obtain ⟨hi69_0, hf⟩ := gd hf
      refine z_iald C rfl hi69_0 d_X12_doesOne_69 ?_
      refine z_aload_n (j := 0) C d_X12_doesOne_70 rfl ?_
      refine zg_X12_numbers C rfl tw_1248 d_X12_doesOne_71 ?_
      refine z_iload_n (j := 2) C d_X12_doesOne_74 rfl ?_
      refine z_iconst (v := 1) C d_X12_doesOne_75 (by decide) ?_
      refine z_iadd C d_X12_doesOne_76 ?_
      obtain ⟨hi77_1, hf⟩ := gd hf
      refine z_iald C rfl hi77_1 d_X12_doesOne_77 ?_
      refine z_aload_n (j := 0) C d_X12_doesOne_78 rfl ?_
      refine zg_X12_numbers C rfl tw_1248 d_X12_doesOne_79 ?_
      refine z_iload_n (j := 2) C d_X12_doesOne_82 rfl ?_
      refine z_iconst (v := 2) C d_X12_doesOne_83 (by decide) ?_
      refine z_iadd C d_X12_doesOne_84 ?_
      obtain ⟨hi85_2, hf⟩ := gd hf
      refine z_iald C rfl hi85_2 d_X12_doesOne_85 ?_
      refine z_iconst (v := 0) C d_X12_doesOne_86 (by decide) ?_
      refine z_aload_n (j := 0) C d_X12_doesOne_87 rfl ?_
      refine zg_X12_numbers C rfl tw_1248 d_X12_doesOne_88 ?_
      refine z_iload_n (j := 2) C d_X12_doesOne_91 rfl ?_
      refine z_iconst (v := 3) C d_X12_doesOne_92 (by decide) ?_
      refine z_iadd C d_X12_doesOne_93 ?_
      obtain ⟨hi94_3, hf⟩ := gd hf
      refine z_iald C rfl hi94_3 d_X12_doesOne_94 ?_
      obtain ⟨q95, hF, hf⟩ := bd hf
      refine z_callV1 (rest := []) C [aI (gI q53.2 20 43), aI (gI q53.2 30 ((v2 : Int32).toNatClampNeg)), aI (gI q53.2 30 (((v2 + 1) : Int32).toNatClampNeg)), aI (gI q53.2 30 (((v2 + 2) : Int32).toNatClampNeg)), aI 0, aI (gI q53.2 30 (((v2 + 3) : Int32).toNatClampNeg))] rfl (by decide) rfl rfl k_X12_adds tw_1463 ⟨by decide, by decide⟩ (Nat.le_of_ble_eq_true rfl) d_X12_doesOne_95 (c_X12_adds C.inj hF) rfl ?_
      refine z_if_ge (tgt := 110) C d_X12_doesOne_98 (by decide) hf (fun c98 hf => ?_) (fun c98 hf => ?_)
      · exact z_sub [] rfl (t_X12_doesOne_110 C hr  _ hf)
      · exact z_sub [0, 1] rfl (t_X12_doesOne_101 C hr  _ _ hf)
  rw [if_neg c10_2] at hf
  have d10_2 := tn (n := 2) c10_2 (by decide)
  by_cases c10_3 : (gI S 28 ((v1 : Int32).toNatClampNeg)) = 3
  · rw [if_pos c10_3] at hf
    refine z_tin (tgt := 116) C d_X12_doesOne_10 (by rw [c10_3]; decide) (by rw [c10_3]; decide) (by rw [c10_3]; rfl) (by decide) ?_
    refine z_aload_n (j := 0) C d_X12_doesOne_116 rfl ?_
    refine z_iload_n (j := 1) C d_X12_doesOne_117 rfl ?_
    obtain ⟨q118, hF, hf⟩ := bd hf
    refine z_callV1 (rest := []) C [aI v1] rfl (by decide) rfl rfl k_X12_dropsOne tw_1760 ⟨by decide, by decide⟩ (Nat.le_of_ble_eq_true rfl) d_X12_doesOne_118 (c_X12_dropsOne C.inj hF) rfl ?_
    obtain ⟨hb121_1, hf⟩ := gd hf
    exact r_i C hr (isB_nar hb121_1).1 d_X12_doesOne_121 hf
  rw [if_neg c10_3] at hf
  have d10_3 := tn (n := 3) c10_3 (by decide)
  refine z_tout (tgt := 122) C d_X12_doesOne_10 (by omega) (by decide) ?_
  refine z_aload_n (j := 0) C d_X12_doesOne_122 rfl ?_
  refine z_aload_n (j := 0) C d_X12_doesOne_123 rfl ?_
  refine zg_X12_numbers C rfl tw_1248 d_X12_doesOne_124 ?_
  refine z_iload_n (j := 2) C d_X12_doesOne_127 rfl ?_
  obtain ⟨hi128_0, hf⟩ := gd hf
  refine z_iald C rfl hi128_0 d_X12_doesOne_128 ?_
  obtain ⟨q129, hF, hf⟩ := bd hf
  refine z_callV1 (rest := []) C [aI (gI S 30 ((v2 : Int32).toNatClampNeg))] rfl (by decide) rfl rfl k_X12_isThing tw_1764 ⟨by decide, by decide⟩ (Nat.le_of_ble_eq_true rfl) d_X12_doesOne_129 (c_X12_isThing C.inj hF) rfl ?_
  refine z_if_eq (tgt := 162) C d_X12_doesOne_132 (by decide) hf (fun c132 hf => ?_) (fun c132 hf => ?_)
  · exact z_sub [0, 1] rfl (t_X12_doesOne_162 C hr  _ _ hf)
  · refine z_aload_n (j := 0) C d_X12_doesOne_135 rfl ?_
    refine z_aload_n (j := 0) C d_X12_doesOne_136 rfl ?_
    refine zg_X12_who C rfl tw_1254 d_X12_doesOne_137 ?_
    refine z_aload_n (j := 0) C d_X12_doesOne_140 rfl ?_
    refine zg_X12_numbers C rfl tw_1248 d_X12_doesOne_141 ?_
    refine z_iload_n (j := 2) C d_X12_doesOne_144 rfl ?_
    obtain ⟨hi145_0, hf⟩ := gd hf
    refine z_iald C rfl hi145_0 d_X12_doesOne_145 ?_
    obtain ⟨q146, hF, hf⟩ := bd hf
    refine z_callV1 (rest := []) C [aI (gI q129.2 20 43), aI (gI q129.2 30 ((v2 : Int32).toNatClampNeg))] rfl (by decide) rfl rfl k_X12_inPurse tw_1521 ⟨by decide, by decide⟩ (Nat.le_of_ble_eq_true rfl) d_X12_doesOne_146 (c_X12_inPurse C.inj hF) rfl ?_
    refine z_aload_n (j := 0) C d_X12_doesOne_149 rfl ?_
    refine zg_X12_numbers C rfl tw_1248 d_X12_doesOne_150 ?_
    refine z_iload_n (j := 2) C d_X12_doesOne_153 rfl ?_
    refine z_iconst (v := 1) C d_X12_doesOne_154 (by decide) ?_
    refine z_iadd C d_X12_doesOne_155 ?_
    obtain ⟨hi156_2, hf⟩ := gd hf
    refine z_iald C rfl hi156_2 d_X12_doesOne_156 ?_
    refine z_i2l C d_X12_doesOne_157 ?_
    refine z_lge (tgt := 171) C d_X12_doesOne_158 d_X12_doesOne_159 (by decide) hf (fun c158 hf => ?_) (fun c158 hf => ?_)
    · exact z_sub [] rfl (t_X12_doesOne_171 C hr  _ hf)
    · exact z_sub [0, 1] rfl (t_X12_doesOne_162 C hr  _ _ hf)
/-- TickPoolsModel.doesOne(I)Z -/
def f_X12_doesOne (p1 : Int32) (S : Mem) : Option (Int32 × Mem) := (f_X12_doesOne_4  p1 (4 * p1) S)
set_option maxRecDepth 20000 in
theorem c_X12_doesOne {l : Launch} {Γ : GG} (hI : Inj Γ) {p1 : Int32} {S : Mem} {q : Int32 × Mem} (hf : f_X12_doesOne p1 S = some q) : MM l Γ yX12_doesOne cX12_doesOne 3 (some .boolean) 9 257 [aR 20, aI p1] S (some (aI q.1)) q.2 := by
  refine met_of hI "TickPoolsModel" rfl (by decide +kernel) (Nat.le_of_ble_eq_true rfl) (fun X hX C hr => ?_)
  unfold f_X12_doesOne at hf
  show ZZ X Γ 3 _ S 0 [(0, aR 20), (1, aI p1)] []
  refine z_iconst (v := 4) C d_X12_doesOne_0 (by decide) ?_
  refine z_iload_n (j := 1) C d_X12_doesOne_1 rfl ?_
  refine z_imul C d_X12_doesOne_2 ?_
  refine z_istore_n (lv' := [(2, aI (4 * p1)), (0, aR 20), (1, aI p1)]) C d_X12_doesOne_3 (by decide) rfl ?_
  exact z_sub [1, 2, 0] rfl (t_X12_doesOne_4 C hr  _ _ _ hf)
theorem d_X12_comesOut_0 : decode cX12_comesOut 0 = .ok (.aload_n 0, 1) := by decide +kernel
theorem d_X12_comesOut_1 : decode cX12_comesOut 1 = .ok (.getfield 95, 3) := by decide +kernel
theorem d_X12_comesOut_4 : decode cX12_comesOut 4 = .ok (.aload_n 0, 1) := by decide +kernel
theorem d_X12_comesOut_5 : decode cX12_comesOut 5 = .ok (.getfield 463, 3) := by decide +kernel
theorem d_X12_comesOut_8 : decode cX12_comesOut 8 = .ok (.iconst 1, 1) := by decide +kernel
theorem d_X12_comesOut_9 : decode cX12_comesOut 9 = .ok (.isub, 1) := by decide +kernel
theorem d_X12_comesOut_10 : decode cX12_comesOut 10 = .ok (.iaload, 1) := by decide +kernel
theorem d_X12_comesOut_11 : decode cX12_comesOut 11 = .ok (.istore_n 1, 1) := by decide +kernel
theorem d_X12_comesOut_12 : decode cX12_comesOut 12 = .ok (.aload_n 0, 1) := by decide +kernel
theorem d_X12_comesOut_13 : decode cX12_comesOut 13 = .ok (.getfield 98, 3) := by decide +kernel
theorem d_X12_comesOut_16 : decode cX12_comesOut 16 = .ok (.aload_n 0, 1) := by decide +kernel
theorem d_X12_comesOut_17 : decode cX12_comesOut 17 = .ok (.getfield 463, 3) := by decide +kernel
theorem d_X12_comesOut_20 : decode cX12_comesOut 20 = .ok (.iconst 1, 1) := by decide +kernel
theorem d_X12_comesOut_21 : decode cX12_comesOut 21 = .ok (.isub, 1) := by decide +kernel
theorem d_X12_comesOut_22 : decode cX12_comesOut 22 = .ok (.dup2, 1) := by decide +kernel
theorem d_X12_comesOut_23 : decode cX12_comesOut 23 = .ok (.iaload, 1) := by decide +kernel
theorem d_X12_comesOut_24 : decode cX12_comesOut 24 = .ok (.iconst 1, 1) := by decide +kernel
theorem d_X12_comesOut_25 : decode cX12_comesOut 25 = .ok (.isub, 1) := by decide +kernel
theorem d_X12_comesOut_26 : decode cX12_comesOut 26 = .ok (.iastore, 1) := by decide +kernel
theorem d_X12_comesOut_27 : decode cX12_comesOut 27 = .ok (.aload_n 0, 1) := by decide +kernel
theorem d_X12_comesOut_28 : decode cX12_comesOut 28 = .ok (.getfield 98, 3) := by decide +kernel
theorem d_X12_comesOut_31 : decode cX12_comesOut 31 = .ok (.aload_n 0, 1) := by decide +kernel
theorem d_X12_comesOut_32 : decode cX12_comesOut 32 = .ok (.getfield 463, 3) := by decide +kernel
theorem d_X12_comesOut_35 : decode cX12_comesOut 35 = .ok (.iconst 1, 1) := by decide +kernel
theorem d_X12_comesOut_36 : decode cX12_comesOut 36 = .ok (.isub, 1) := by decide +kernel
theorem d_X12_comesOut_37 : decode cX12_comesOut 37 = .ok (.iaload, 1) := by decide +kernel
theorem d_X12_comesOut_38 : decode cX12_comesOut 38 = .ok (.ifCond .le 7, 3) := by decide +kernel
theorem d_X12_comesOut_41 : decode cX12_comesOut 41 = .ok (.iload_n 1, 1) := by decide +kernel
theorem d_X12_comesOut_42 : decode cX12_comesOut 42 = .ok (.iconst 1, 1) := by decide +kernel
theorem d_X12_comesOut_43 : decode cX12_comesOut 43 = .ok (.iadd, 1) := by decide +kernel
theorem d_X12_comesOut_44 : decode cX12_comesOut 44 = .ok (.ireturn, 1) := by decide +kernel
theorem d_X12_comesOut_45 : decode cX12_comesOut 45 = .ok (.aload_n 0, 1) := by decide +kernel
theorem d_X12_comesOut_46 : decode cX12_comesOut 46 = .ok (.dup, 1) := by decide +kernel
theorem d_X12_comesOut_47 : decode cX12_comesOut 47 = .ok (.getfield 463, 3) := by decide +kernel
theorem d_X12_comesOut_50 : decode cX12_comesOut 50 = .ok (.iconst 1, 1) := by decide +kernel
theorem d_X12_comesOut_51 : decode cX12_comesOut 51 = .ok (.isub, 1) := by decide +kernel
theorem d_X12_comesOut_52 : decode cX12_comesOut 52 = .ok (.putfield 463, 3) := by decide +kernel
theorem d_X12_comesOut_55 : decode cX12_comesOut 55 = .ok (.aload_n 0, 1) := by decide +kernel
theorem d_X12_comesOut_56 : decode cX12_comesOut 56 = .ok (.getfield 74, 3) := by decide +kernel
theorem d_X12_comesOut_59 : decode cX12_comesOut 59 = .ok (.iload_n 1, 1) := by decide +kernel
theorem d_X12_comesOut_60 : decode cX12_comesOut 60 = .ok (.iaload, 1) := by decide +kernel
theorem d_X12_comesOut_61 : decode cX12_comesOut 61 = .ok (.iconst 5, 1) := by decide +kernel
theorem d_X12_comesOut_62 : decode cX12_comesOut 62 = .ok (.if_icmp .ne 20, 3) := by decide +kernel
theorem d_X12_comesOut_65 : decode cX12_comesOut 65 = .ok (.aload_n 0, 1) := by decide +kernel
theorem d_X12_comesOut_66 : decode cX12_comesOut 66 = .ok (.iload_n 1, 1) := by decide +kernel
theorem d_X12_comesOut_67 : decode cX12_comesOut 67 = .ok (.aload_n 0, 1) := by decide +kernel
theorem d_X12_comesOut_68 : decode cX12_comesOut 68 = .ok (.getfield 101, 3) := by decide +kernel
theorem d_X12_comesOut_71 : decode cX12_comesOut 71 = .ok (.aload_n 0, 1) := by decide +kernel
theorem d_X12_comesOut_72 : decode cX12_comesOut 72 = .ok (.getfield 463, 3) := by decide +kernel
theorem d_X12_comesOut_75 : decode cX12_comesOut 75 = .ok (.laload, 1) := by decide +kernel
theorem d_X12_comesOut_76 : decode cX12_comesOut 76 = .ok (.invokevirtual 478, 3) := by decide +kernel
theorem d_X12_comesOut_79 : decode cX12_comesOut 79 = .ok (.ifCond .eq 12, 3) := by decide +kernel
theorem d_X12_comesOut_82 : decode cX12_comesOut 82 = .ok (.aload_n 0, 1) := by decide +kernel
theorem d_X12_comesOut_83 : decode cX12_comesOut 83 = .ok (.getfield 86, 3) := by decide +kernel
theorem d_X12_comesOut_86 : decode cX12_comesOut 86 = .ok (.iload_n 1, 1) := by decide +kernel
theorem d_X12_comesOut_87 : decode cX12_comesOut 87 = .ok (.iaload, 1) := by decide +kernel
theorem d_X12_comesOut_88 : decode cX12_comesOut 88 = .ok (.goto 4, 3) := by decide +kernel
theorem d_X12_comesOut_91 : decode cX12_comesOut 91 = .ok (.iconst (-1), 1) := by decide +kernel
theorem d_X12_comesOut_92 : decode cX12_comesOut 92 = .ok (.ireturn, 1) := by decide +kernel
def f_X12_comesOut_92 (s0 : Int32) (S : Mem) : Option (Int32 × Mem) := (some (s0, S))
set_option maxRecDepth 20000 in
theorem t_X12_comesOut_92 {X : MC} {Γ : GG} (C : CX X Γ cX12_comesOut 2 "TickPoolsModel" 5 127) (hr : X.2.2.2.2.2.2.2.2.1.sig.returnType = some .int) {q : Int32 × Mem} (s0 : Int32) (S : Mem) (hf : f_X12_comesOut_92 s0 S = some q) : ZZ X Γ 2 (QQ X Γ (some (aI q.1)) q.2) S 92 [] [aI s0] := by
  unfold f_X12_comesOut_92 at hf
  exact r_i C hr rfl d_X12_comesOut_92 hf
def f_X12_comesOut_82 (v1 : Int32) (S : Mem) : Option (Int32 × Mem) := (if inb v1 40 = true then (f_X12_comesOut_92  (gI S 32 ((v1 : Int32).toNatClampNeg)) S) else none)
set_option maxRecDepth 20000 in
theorem t_X12_comesOut_82 {X : MC} {Γ : GG} (C : CX X Γ cX12_comesOut 2 "TickPoolsModel" 5 127) (hr : X.2.2.2.2.2.2.2.2.1.sig.returnType = some .int) {q : Int32 × Mem} (v1 : Int32) (S : Mem) (hf : f_X12_comesOut_82 v1 S = some q) : ZZ X Γ 2 (QQ X Γ (some (aI q.1)) q.2) S 82 [(0, aR 20), (1, aI v1)] [] := by
  unfold f_X12_comesOut_82 at hf
  refine z_aload_n (j := 0) C d_X12_comesOut_82 rfl ?_
  refine zg_X12_behind C rfl tw_1250 d_X12_comesOut_83 ?_
  refine z_iload_n (j := 1) C d_X12_comesOut_86 rfl ?_
  obtain ⟨hi87_0, hf⟩ := gd hf
  refine z_iald C rfl hi87_0 d_X12_comesOut_87 ?_
  refine z_goto (tgt := 92) C d_X12_comesOut_88 (by decide) ?_
  exact z_sub [] rfl (t_X12_comesOut_92 C hr  _ _ hf)
def f_X12_comesOut_12 (v1 : Int32) (S : Mem) : Option (Int32 × Mem) := (if inb ((gI S 20 50) - 1) 4 = true then (if inb ((gI S 20 50) - 1) 4 = true then (if inb ((gI (sI S 36 ((((gI S 20 50) - 1) : Int32).toNatClampNeg) ((gI S 36 ((((gI S 20 50) - 1) : Int32).toNatClampNeg)) - 1)) 20 50) - 1) 4 = true then (if (gI (sI S 36 ((((gI S 20 50) - 1) : Int32).toNatClampNeg) ((gI S 36 ((((gI S 20 50) - 1) : Int32).toNatClampNeg)) - 1)) 36 ((((gI (sI S 36 ((((gI S 20 50) - 1) : Int32).toNatClampNeg) ((gI S 36 ((((gI S 20 50) - 1) : Int32).toNatClampNeg)) - 1)) 20 50) - 1) : Int32).toNatClampNeg)) ≤ 0 then (if inb v1 40 = true then (if (gI (sI (sI S 36 ((((gI S 20 50) - 1) : Int32).toNatClampNeg) ((gI S 36 ((((gI S 20 50) - 1) : Int32).toNatClampNeg)) - 1)) 20 50 ((gI (sI S 36 ((((gI S 20 50) - 1) : Int32).toNatClampNeg) ((gI S 36 ((((gI S 20 50) - 1) : Int32).toNatClampNeg)) - 1)) 20 50) - 1)) 28 ((v1 : Int32).toNatClampNeg)) = 5 then (if inb (gI (sI (sI S 36 ((((gI S 20 50) - 1) : Int32).toNatClampNeg) ((gI S 36 ((((gI S 20 50) - 1) : Int32).toNatClampNeg)) - 1)) 20 50 ((gI (sI S 36 ((((gI S 20 50) - 1) : Int32).toNatClampNeg) ((gI S 36 ((((gI S 20 50) - 1) : Int32).toNatClampNeg)) - 1)) 20 50) - 1)) 20 50) 4 = true then ((f_X12_givesBack v1 (gL (sI (sI S 36 ((((gI S 20 50) - 1) : Int32).toNatClampNeg) ((gI S 36 ((((gI S 20 50) - 1) : Int32).toNatClampNeg)) - 1)) 20 50 ((gI (sI S 36 ((((gI S 20 50) - 1) : Int32).toNatClampNeg) ((gI S 36 ((((gI S 20 50) - 1) : Int32).toNatClampNeg)) - 1)) 20 50) - 1)) 37 (((gI (sI (sI S 36 ((((gI S 20 50) - 1) : Int32).toNatClampNeg) ((gI S 36 ((((gI S 20 50) - 1) : Int32).toNatClampNeg)) - 1)) 20 50 ((gI (sI S 36 ((((gI S 20 50) - 1) : Int32).toNatClampNeg) ((gI S 36 ((((gI S 20 50) - 1) : Int32).toNatClampNeg)) - 1)) 20 50) - 1)) 20 50) : Int32).toNatClampNeg)) (sI (sI S 36 ((((gI S 20 50) - 1) : Int32).toNatClampNeg) ((gI S 36 ((((gI S 20 50) - 1) : Int32).toNatClampNeg)) - 1)) 20 50 ((gI (sI S 36 ((((gI S 20 50) - 1) : Int32).toNatClampNeg) ((gI S 36 ((((gI S 20 50) - 1) : Int32).toNatClampNeg)) - 1)) 20 50) - 1))).bind fun q76 => (if q76.1 = 0 then (f_X12_comesOut_92  (-1) q76.2) else (f_X12_comesOut_82  v1 q76.2))) else none) else (f_X12_comesOut_82  v1 (sI (sI S 36 ((((gI S 20 50) - 1) : Int32).toNatClampNeg) ((gI S 36 ((((gI S 20 50) - 1) : Int32).toNatClampNeg)) - 1)) 20 50 ((gI (sI S 36 ((((gI S 20 50) - 1) : Int32).toNatClampNeg) ((gI S 36 ((((gI S 20 50) - 1) : Int32).toNatClampNeg)) - 1)) 20 50) - 1)))) else none) else (some ((v1 + 1), (sI S 36 ((((gI S 20 50) - 1) : Int32).toNatClampNeg) ((gI S 36 ((((gI S 20 50) - 1) : Int32).toNatClampNeg)) - 1))))) else none) else none) else none)
set_option maxRecDepth 20000 in
theorem t_X12_comesOut_12 {X : MC} {Γ : GG} (C : CX X Γ cX12_comesOut 2 "TickPoolsModel" 5 127) (hr : X.2.2.2.2.2.2.2.2.1.sig.returnType = some .int) {q : Int32 × Mem} (v1 : Int32) (S : Mem) (hf : f_X12_comesOut_12 v1 S = some q) : ZZ X Γ 2 (QQ X Γ (some (aI q.1)) q.2) S 12 [(0, aR 20), (1, aI v1)] [] := by
  unfold f_X12_comesOut_12 at hf
  refine z_aload_n (j := 0) C d_X12_comesOut_12 rfl ?_
  refine zg_X12_turns C rfl tw_1259 d_X12_comesOut_13 ?_
  refine z_aload_n (j := 0) C d_X12_comesOut_16 rfl ?_
  refine zg_X12_deep C rfl tw_1261 d_X12_comesOut_17 ?_
  refine z_iconst (v := 1) C d_X12_comesOut_20 (by decide) ?_
  refine z_isub C d_X12_comesOut_21 ?_
  refine z_dup2_11 C d_X12_comesOut_22 rfl rfl ?_
  obtain ⟨hi23_0, hf⟩ := gd hf
  refine z_iald C rfl hi23_0 d_X12_comesOut_23 ?_
  refine z_iconst (v := 1) C d_X12_comesOut_24 (by decide) ?_
  refine z_isub C d_X12_comesOut_25 ?_
  obtain ⟨hi26_1, hf⟩ := gd hf
  refine z_iast C rfl hi26_1 d_X12_comesOut_26 ?_
  refine z_aload_n (j := 0) C d_X12_comesOut_27 rfl ?_
  refine zg_X12_turns C rfl tw_1259 d_X12_comesOut_28 ?_
  refine z_aload_n (j := 0) C d_X12_comesOut_31 rfl ?_
  refine zg_X12_deep C rfl tw_1261 d_X12_comesOut_32 ?_
  refine z_iconst (v := 1) C d_X12_comesOut_35 (by decide) ?_
  refine z_isub C d_X12_comesOut_36 ?_
  obtain ⟨hi37_2, hf⟩ := gd hf
  refine z_iald C rfl hi37_2 d_X12_comesOut_37 ?_
  refine z_if_le (tgt := 45) C d_X12_comesOut_38 (by decide) hf (fun c38 hf => ?_) (fun c38 hf => ?_)
  · refine z_aload_n (j := 0) C d_X12_comesOut_45 rfl ?_
    refine z_dup C d_X12_comesOut_46 rfl ?_
    refine zg_X12_deep C rfl tw_1261 d_X12_comesOut_47 ?_
    refine z_iconst (v := 1) C d_X12_comesOut_50 (by decide) ?_
    refine z_isub C d_X12_comesOut_51 ?_
    refine zp_X12_deep C rfl tw_1261 d_X12_comesOut_52 ?_
    refine z_aload_n (j := 0) C d_X12_comesOut_55 rfl ?_
    refine zg_X12_kind C rfl tw_1246 d_X12_comesOut_56 ?_
    refine z_iload_n (j := 1) C d_X12_comesOut_59 rfl ?_
    obtain ⟨hi60_0, hf⟩ := gd hf
    refine z_iald C rfl hi60_0 d_X12_comesOut_60 ?_
    refine z_iconst (v := 5) C d_X12_comesOut_61 (by decide) ?_
    refine z_icmp_ne (tgt := 82) C d_X12_comesOut_62 (by decide) hf (fun c62 hf => ?_) (fun c62 hf => ?_)
    · exact z_sub [0, 1] rfl (t_X12_comesOut_82 C hr  _ _ hf)
    · refine z_aload_n (j := 0) C d_X12_comesOut_65 rfl ?_
      refine z_iload_n (j := 1) C d_X12_comesOut_66 rfl ?_
      refine z_aload_n (j := 0) C d_X12_comesOut_67 rfl ?_
      refine zg_X12_lent C rfl tw_1260 d_X12_comesOut_68 ?_
      refine z_aload_n (j := 0) C d_X12_comesOut_71 rfl ?_
      refine zg_X12_deep C rfl tw_1261 d_X12_comesOut_72 ?_
      obtain ⟨hi75_0, hf⟩ := gd hf
      refine z_lald C rfl hi75_0 d_X12_comesOut_75 ?_
      obtain ⟨q76, hF, hf⟩ := bd hf
      refine z_callV1 (rest := []) C [aI v1, aJ (gL (sI (sI S 36 ((((gI S 20 50) - 1) : Int32).toNatClampNeg) ((gI S 36 ((((gI S 20 50) - 1) : Int32).toNatClampNeg)) - 1)) 20 50 ((gI (sI S 36 ((((gI S 20 50) - 1) : Int32).toNatClampNeg) ((gI S 36 ((((gI S 20 50) - 1) : Int32).toNatClampNeg)) - 1)) 20 50) - 1)) 37 (((gI (sI (sI S 36 ((((gI S 20 50) - 1) : Int32).toNatClampNeg) ((gI S 36 ((((gI S 20 50) - 1) : Int32).toNatClampNeg)) - 1)) 20 50 ((gI (sI S 36 ((((gI S 20 50) - 1) : Int32).toNatClampNeg) ((gI S 36 ((((gI S 20 50) - 1) : Int32).toNatClampNeg)) - 1)) 20 50) - 1)) 20 50) : Int32).toNatClampNeg))] rfl (by decide) rfl rfl k_X12_givesBack tw_1721 ⟨by decide, by decide⟩ (Nat.le_of_ble_eq_true rfl) d_X12_comesOut_76 (c_X12_givesBack C.inj hF) rfl ?_
      refine z_if_eq (tgt := 91) C d_X12_comesOut_79 (by decide) hf (fun c79 hf => ?_) (fun c79 hf => ?_)
      · refine z_iconst (v := (-1)) C d_X12_comesOut_91 (by decide) ?_
        exact z_sub [] rfl (t_X12_comesOut_92 C hr  _ _ hf)
      · exact z_sub [0, 1] rfl (t_X12_comesOut_82 C hr  _ _ hf)
  · refine z_iload_n (j := 1) C d_X12_comesOut_41 rfl ?_
    refine z_iconst (v := 1) C d_X12_comesOut_42 (by decide) ?_
    refine z_iadd C d_X12_comesOut_43 ?_
    exact r_i C hr rfl d_X12_comesOut_44 hf
/-- TickPoolsModel.comesOut()I -/
def f_X12_comesOut (S : Mem) : Option (Int32 × Mem) := (if inb ((gI S 20 50) - 1) 4 = true then (f_X12_comesOut_12  (gI S 35 ((((gI S 20 50) - 1) : Int32).toNatClampNeg)) S) else none)
set_option maxRecDepth 20000 in
theorem c_X12_comesOut {l : Launch} {Γ : GG} (hI : Inj Γ) {S : Mem} {q : Int32 × Mem} (hf : f_X12_comesOut S = some q) : MM l Γ yX12_comesOut cX12_comesOut 2 (some .int) 5 127 [aR 20] S (some (aI q.1)) q.2 := by
  refine met_of hI "TickPoolsModel" rfl (by decide +kernel) (Nat.le_of_ble_eq_true rfl) (fun X hX C hr => ?_)
  unfold f_X12_comesOut at hf
  show ZZ X Γ 2 _ S 0 [(0, aR 20)] []
  refine z_aload_n (j := 0) C d_X12_comesOut_0 rfl ?_
  refine zg_X12_within C rfl tw_1258 d_X12_comesOut_1 ?_
  refine z_aload_n (j := 0) C d_X12_comesOut_4 rfl ?_
  refine zg_X12_deep C rfl tw_1261 d_X12_comesOut_5 ?_
  refine z_iconst (v := 1) C d_X12_comesOut_8 (by decide) ?_
  refine z_isub C d_X12_comesOut_9 ?_
  obtain ⟨hi10_0, hf⟩ := gd hf
  refine z_iald C rfl hi10_0 d_X12_comesOut_10 ?_
  refine z_istore_n (lv' := [(1, aI (gI S 35 ((((gI S 20 50) - 1) : Int32).toNatClampNeg))), (0, aR 20)]) C d_X12_comesOut_11 (by decide) rfl ?_
  exact z_sub [1, 0] rfl (t_X12_comesOut_12 C hr  _ _ hf)
theorem d_X12_goesFrom_0 : decode cX12_goesFrom 0 = .ok (.aload_n 0, 1) := by decide +kernel
theorem d_X12_goesFrom_1 : decode cX12_goesFrom 1 = .ok (.getfield 482, 3) := by decide +kernel
theorem d_X12_goesFrom_4 : decode cX12_goesFrom 4 = .ok (.bipush 100, 2) := by decide +kernel
theorem d_X12_goesFrom_6 : decode cX12_goesFrom 6 = .ok (.if_icmp .ne 13, 3) := by decide +kernel
theorem d_X12_goesFrom_9 : decode cX12_goesFrom 9 = .ok (.aload_n 0, 1) := by decide +kernel
theorem d_X12_goesFrom_10 : decode cX12_goesFrom 10 = .ok (.bipush 6, 2) := by decide +kernel
theorem d_X12_goesFrom_12 : decode cX12_goesFrom 12 = .ok (.iload_n 1, 1) := by decide +kernel
theorem d_X12_goesFrom_13 : decode cX12_goesFrom 13 = .ok (.invokevirtual 449, 3) := by decide +kernel
theorem d_X12_goesFrom_16 : decode cX12_goesFrom 16 = .ok (.pop, 1) := by decide +kernel
theorem d_X12_goesFrom_17 : decode cX12_goesFrom 17 = .ok (.iconst (-1), 1) := by decide +kernel
theorem d_X12_goesFrom_18 : decode cX12_goesFrom 18 = .ok (.ireturn, 1) := by decide +kernel
theorem d_X12_goesFrom_19 : decode cX12_goesFrom 19 = .ok (.aload_n 0, 1) := by decide +kernel
theorem d_X12_goesFrom_20 : decode cX12_goesFrom 20 = .ok (.dup, 1) := by decide +kernel
theorem d_X12_goesFrom_21 : decode cX12_goesFrom 21 = .ok (.getfield 482, 3) := by decide +kernel
theorem d_X12_goesFrom_24 : decode cX12_goesFrom 24 = .ok (.iconst 1, 1) := by decide +kernel
theorem d_X12_goesFrom_25 : decode cX12_goesFrom 25 = .ok (.iadd, 1) := by decide +kernel
theorem d_X12_goesFrom_26 : decode cX12_goesFrom 26 = .ok (.putfield 482, 3) := by decide +kernel
theorem d_X12_goesFrom_29 : decode cX12_goesFrom 29 = .ok (.aload_n 0, 1) := by decide +kernel
theorem d_X12_goesFrom_30 : decode cX12_goesFrom 30 = .ok (.getfield 74, 3) := by decide +kernel
theorem d_X12_goesFrom_33 : decode cX12_goesFrom 33 = .ok (.iload_n 1, 1) := by decide +kernel
theorem d_X12_goesFrom_34 : decode cX12_goesFrom 34 = .ok (.iaload, 1) := by decide +kernel
theorem d_X12_goesFrom_35 : decode cX12_goesFrom 35 = .ok (.iconst 5, 1) := by decide +kernel
theorem d_X12_goesFrom_36 : decode cX12_goesFrom 36 = .ok (.if_icmp .ne 19, 3) := by decide +kernel
theorem d_X12_goesFrom_39 : decode cX12_goesFrom 39 = .ok (.aload_n 0, 1) := by decide +kernel
theorem d_X12_goesFrom_40 : decode cX12_goesFrom 40 = .ok (.iload_n 1, 1) := by decide +kernel
theorem d_X12_goesFrom_41 : decode cX12_goesFrom 41 = .ok (.invokevirtual 485, 3) := by decide +kernel
theorem d_X12_goesFrom_44 : decode cX12_goesFrom 44 = .ok (.ifCond .eq 9, 3) := by decide +kernel
theorem d_X12_goesFrom_47 : decode cX12_goesFrom 47 = .ok (.iload_n 1, 1) := by decide +kernel
theorem d_X12_goesFrom_48 : decode cX12_goesFrom 48 = .ok (.iconst 1, 1) := by decide +kernel
theorem d_X12_goesFrom_49 : decode cX12_goesFrom 49 = .ok (.iadd, 1) := by decide +kernel
theorem d_X12_goesFrom_50 : decode cX12_goesFrom 50 = .ok (.goto 4, 3) := by decide +kernel
theorem d_X12_goesFrom_53 : decode cX12_goesFrom 53 = .ok (.iconst (-1), 1) := by decide +kernel
theorem d_X12_goesFrom_54 : decode cX12_goesFrom 54 = .ok (.ireturn, 1) := by decide +kernel
theorem d_X12_goesFrom_55 : decode cX12_goesFrom 55 = .ok (.aload_n 0, 1) := by decide +kernel
theorem d_X12_goesFrom_56 : decode cX12_goesFrom 56 = .ok (.getfield 74, 3) := by decide +kernel
theorem d_X12_goesFrom_59 : decode cX12_goesFrom 59 = .ok (.iload_n 1, 1) := by decide +kernel
theorem d_X12_goesFrom_60 : decode cX12_goesFrom 60 = .ok (.iaload, 1) := by decide +kernel
theorem d_X12_goesFrom_61 : decode cX12_goesFrom 61 = .ok (.bipush 6, 2) := by decide +kernel
theorem d_X12_goesFrom_63 : decode cX12_goesFrom 63 = .ok (.if_icmp .eq 19, 3) := by decide +kernel
theorem d_X12_goesFrom_66 : decode cX12_goesFrom 66 = .ok (.aload_n 0, 1) := by decide +kernel
theorem d_X12_goesFrom_67 : decode cX12_goesFrom 67 = .ok (.iload_n 1, 1) := by decide +kernel
theorem d_X12_goesFrom_68 : decode cX12_goesFrom 68 = .ok (.invokevirtual 488, 3) := by decide +kernel
theorem d_X12_goesFrom_71 : decode cX12_goesFrom 71 = .ok (.ifCond .eq 9, 3) := by decide +kernel
theorem d_X12_goesFrom_74 : decode cX12_goesFrom 74 = .ok (.iload_n 1, 1) := by decide +kernel
theorem d_X12_goesFrom_75 : decode cX12_goesFrom 75 = .ok (.iconst 1, 1) := by decide +kernel
theorem d_X12_goesFrom_76 : decode cX12_goesFrom 76 = .ok (.iadd, 1) := by decide +kernel
theorem d_X12_goesFrom_77 : decode cX12_goesFrom 77 = .ok (.goto 4, 3) := by decide +kernel
theorem d_X12_goesFrom_80 : decode cX12_goesFrom 80 = .ok (.iconst (-1), 1) := by decide +kernel
theorem d_X12_goesFrom_81 : decode cX12_goesFrom 81 = .ok (.ireturn, 1) := by decide +kernel
theorem d_X12_goesFrom_82 : decode cX12_goesFrom 82 = .ok (.aload_n 0, 1) := by decide +kernel
theorem d_X12_goesFrom_83 : decode cX12_goesFrom 83 = .ok (.getfield 80, 3) := by decide +kernel
theorem d_X12_goesFrom_86 : decode cX12_goesFrom 86 = .ok (.iconst 4, 1) := by decide +kernel
theorem d_X12_goesFrom_87 : decode cX12_goesFrom 87 = .ok (.iload_n 1, 1) := by decide +kernel
theorem d_X12_goesFrom_88 : decode cX12_goesFrom 88 = .ok (.imul, 1) := by decide +kernel
theorem d_X12_goesFrom_89 : decode cX12_goesFrom 89 = .ok (.iaload, 1) := by decide +kernel
theorem d_X12_goesFrom_90 : decode cX12_goesFrom 90 = .ok (.ifCond .ne 10, 3) := by decide +kernel
theorem d_X12_goesFrom_93 : decode cX12_goesFrom 93 = .ok (.aload_n 0, 1) := by decide +kernel
theorem d_X12_goesFrom_94 : decode cX12_goesFrom 94 = .ok (.getfield 86, 3) := by decide +kernel
theorem d_X12_goesFrom_97 : decode cX12_goesFrom 97 = .ok (.iload_n 1, 1) := by decide +kernel
theorem d_X12_goesFrom_98 : decode cX12_goesFrom 98 = .ok (.iaload, 1) := by decide +kernel
theorem d_X12_goesFrom_99 : decode cX12_goesFrom 99 = .ok (.ireturn, 1) := by decide +kernel
theorem d_X12_goesFrom_100 : decode cX12_goesFrom 100 = .ok (.aload_n 0, 1) := by decide +kernel
theorem d_X12_goesFrom_101 : decode cX12_goesFrom 101 = .ok (.iload_n 1, 1) := by decide +kernel
theorem d_X12_goesFrom_102 : decode cX12_goesFrom 102 = .ok (.aload_n 0, 1) := by decide +kernel
theorem d_X12_goesFrom_103 : decode cX12_goesFrom 103 = .ok (.getfield 80, 3) := by decide +kernel
theorem d_X12_goesFrom_106 : decode cX12_goesFrom 106 = .ok (.iconst 4, 1) := by decide +kernel
theorem d_X12_goesFrom_107 : decode cX12_goesFrom 107 = .ok (.iload_n 1, 1) := by decide +kernel
theorem d_X12_goesFrom_108 : decode cX12_goesFrom 108 = .ok (.imul, 1) := by decide +kernel
theorem d_X12_goesFrom_109 : decode cX12_goesFrom 109 = .ok (.iaload, 1) := by decide +kernel
theorem d_X12_goesFrom_110 : decode cX12_goesFrom 110 = .ok (.lconst 0, 1) := by decide +kernel
theorem d_X12_goesFrom_111 : decode cX12_goesFrom 111 = .ok (.invokevirtual 466, 3) := by decide +kernel
theorem d_X12_goesFrom_114 : decode cX12_goesFrom 114 = .ok (.iload_n 1, 1) := by decide +kernel
theorem d_X12_goesFrom_115 : decode cX12_goesFrom 115 = .ok (.iconst 1, 1) := by decide +kernel
theorem d_X12_goesFrom_116 : decode cX12_goesFrom 116 = .ok (.iadd, 1) := by decide +kernel
theorem d_X12_goesFrom_117 : decode cX12_goesFrom 117 = .ok (.ireturn, 1) := by decide +kernel
def f_X12_goesFrom_54 (s0 : Int32) (S : Mem) : Option (Int32 × Mem) := (some (s0, S))
set_option maxRecDepth 20000 in
theorem t_X12_goesFrom_54 {X : MC} {Γ : GG} (C : CX X Γ cX12_goesFrom 2 "TickPoolsModel" 10 279) (hr : X.2.2.2.2.2.2.2.2.1.sig.returnType = some .int) {q : Int32 × Mem} (s0 : Int32) (S : Mem) (hf : f_X12_goesFrom_54 s0 S = some q) : ZZ X Γ 2 (QQ X Γ (some (aI q.1)) q.2) S 54 [] [aI s0] := by
  unfold f_X12_goesFrom_54 at hf
  exact r_i C hr rfl d_X12_goesFrom_54 hf
def f_X12_goesFrom_81 (s0 : Int32) (S : Mem) : Option (Int32 × Mem) := (some (s0, S))
set_option maxRecDepth 20000 in
theorem t_X12_goesFrom_81 {X : MC} {Γ : GG} (C : CX X Γ cX12_goesFrom 2 "TickPoolsModel" 10 279) (hr : X.2.2.2.2.2.2.2.2.1.sig.returnType = some .int) {q : Int32 × Mem} (s0 : Int32) (S : Mem) (hf : f_X12_goesFrom_81 s0 S = some q) : ZZ X Γ 2 (QQ X Γ (some (aI q.1)) q.2) S 81 [] [aI s0] := by
  unfold f_X12_goesFrom_81 at hf
  exact r_i C hr rfl d_X12_goesFrom_81 hf
/-- TickPoolsModel.goesFrom(I)I -/
def f_X12_goesFrom (p1 : Int32) (S : Mem) : Option (Int32 × Mem) := (if (gI S 20 44) = 100 then ((f_X12_stops 6 p1 S).bind fun q13 => (some ((-1), q13.2))) else (if inb p1 40 = true then (if (gI (sI S 20 44 ((gI S 20 44) + 1)) 28 ((p1 : Int32).toNatClampNeg)) = 5 then ((f_X12_lends p1 (sI S 20 44 ((gI S 20 44) + 1))).bind fun q41 => (if q41.1 = 0 then (f_X12_goesFrom_54  (-1) q41.2) else (f_X12_goesFrom_54  (p1 + 1) q41.2))) else (if inb p1 40 = true then (if (gI (sI S 20 44 ((gI S 20 44) + 1)) 28 ((p1 : Int32).toNatClampNeg)) = 6 then (if inb (4 * p1) 160 = true then (if (gI (sI S 20 44 ((gI S 20 44) + 1)) 30 (((4 * p1) : Int32).toNatClampNeg)) = 0 then (if inb p1 40 = true then (some ((gI (sI S 20 44 ((gI S 20 44) + 1)) 32 ((p1 : Int32).toNatClampNeg)), (sI S 20 44 ((gI S 20 44) + 1)))) else none) else (if inb (4 * p1) 160 = true then ((f_X12_goesInto p1 (gI (sI S 20 44 ((gI S 20 44) + 1)) 30 (((4 * p1) : Int32).toNatClampNeg)) 0 (sI S 20 44 ((gI S 20 44) + 1))).bind fun q111 => (some ((p1 + 1), q111.2))) else none)) else none) else ((f_X12_doesOne p1 (sI S 20 44 ((gI S 20 44) + 1))).bind fun q68 => (if q68.1 = 0 then (f_X12_goesFrom_81  (-1) q68.2) else (f_X12_goesFrom_81  (p1 + 1) q68.2)))) else none)) else none))
set_option maxRecDepth 20000 in
theorem c_X12_goesFrom {l : Launch} {Γ : GG} (hI : Inj Γ) {p1 : Int32} {S : Mem} {q : Int32 × Mem} (hf : f_X12_goesFrom p1 S = some q) : MM l Γ yX12_goesFrom cX12_goesFrom 2 (some .int) 10 279 [aR 20, aI p1] S (some (aI q.1)) q.2 := by
  refine met_of hI "TickPoolsModel" rfl (by decide +kernel) (Nat.le_of_ble_eq_true rfl) (fun X hX C hr => ?_)
  unfold f_X12_goesFrom at hf
  show ZZ X Γ 2 _ S 0 [(0, aR 20), (1, aI p1)] []
  refine z_aload_n (j := 0) C d_X12_goesFrom_0 rfl ?_
  refine zg_X12_doneMany C rfl tw_1255 d_X12_goesFrom_1 ?_
  refine z_bipush (v := 100) C d_X12_goesFrom_4 (by decide) ?_
  refine z_icmp_ne (tgt := 19) C d_X12_goesFrom_6 (by decide) hf (fun c6 hf => ?_) (fun c6 hf => ?_)
  · refine z_aload_n (j := 0) C d_X12_goesFrom_19 rfl ?_
    refine z_dup C d_X12_goesFrom_20 rfl ?_
    refine zg_X12_doneMany C rfl tw_1255 d_X12_goesFrom_21 ?_
    refine z_iconst (v := 1) C d_X12_goesFrom_24 (by decide) ?_
    refine z_iadd C d_X12_goesFrom_25 ?_
    refine zp_X12_doneMany C rfl tw_1255 d_X12_goesFrom_26 ?_
    refine z_aload_n (j := 0) C d_X12_goesFrom_29 rfl ?_
    refine zg_X12_kind C rfl tw_1246 d_X12_goesFrom_30 ?_
    refine z_iload_n (j := 1) C d_X12_goesFrom_33 rfl ?_
    obtain ⟨hi34_0, hf⟩ := gd hf
    refine z_iald C rfl hi34_0 d_X12_goesFrom_34 ?_
    refine z_iconst (v := 5) C d_X12_goesFrom_35 (by decide) ?_
    refine z_icmp_ne (tgt := 55) C d_X12_goesFrom_36 (by decide) hf (fun c36 hf => ?_) (fun c36 hf => ?_)
    · refine z_aload_n (j := 0) C d_X12_goesFrom_55 rfl ?_
      refine zg_X12_kind C rfl tw_1246 d_X12_goesFrom_56 ?_
      refine z_iload_n (j := 1) C d_X12_goesFrom_59 rfl ?_
      obtain ⟨hi60_0, hf⟩ := gd hf
      refine z_iald C rfl hi60_0 d_X12_goesFrom_60 ?_
      refine z_bipush (v := 6) C d_X12_goesFrom_61 (by decide) ?_
      refine z_icmp_eq (tgt := 82) C d_X12_goesFrom_63 (by decide) hf (fun c63 hf => ?_) (fun c63 hf => ?_)
      · refine z_aload_n (j := 0) C d_X12_goesFrom_82 rfl ?_
        refine zg_X12_numbers C rfl tw_1248 d_X12_goesFrom_83 ?_
        refine z_iconst (v := 4) C d_X12_goesFrom_86 (by decide) ?_
        refine z_iload_n (j := 1) C d_X12_goesFrom_87 rfl ?_
        refine z_imul C d_X12_goesFrom_88 ?_
        obtain ⟨hi89_0, hf⟩ := gd hf
        refine z_iald C rfl hi89_0 d_X12_goesFrom_89 ?_
        refine z_if_ne (tgt := 100) C d_X12_goesFrom_90 (by decide) hf (fun c90 hf => ?_) (fun c90 hf => ?_)
        · refine z_aload_n (j := 0) C d_X12_goesFrom_100 rfl ?_
          refine z_iload_n (j := 1) C d_X12_goesFrom_101 rfl ?_
          refine z_aload_n (j := 0) C d_X12_goesFrom_102 rfl ?_
          refine zg_X12_numbers C rfl tw_1248 d_X12_goesFrom_103 ?_
          refine z_iconst (v := 4) C d_X12_goesFrom_106 (by decide) ?_
          refine z_iload_n (j := 1) C d_X12_goesFrom_107 rfl ?_
          refine z_imul C d_X12_goesFrom_108 ?_
          obtain ⟨hi109_0, hf⟩ := gd hf
          refine z_iald C rfl hi109_0 d_X12_goesFrom_109 ?_
          refine z_lconst (v := 0) C d_X12_goesFrom_110 (by decide) ?_
          obtain ⟨q111, hF, hf⟩ := bd hf
          refine z_callV0 (rest := []) C [aI p1, aI (gI (sI S 20 44 ((gI S 20 44) + 1)) 30 (((4 * p1) : Int32).toNatClampNeg)), aJ 0] rfl (by decide) rfl rfl k_X12_goesInto tw_1745 ⟨by decide, by decide⟩ (Nat.le_of_ble_eq_true rfl) d_X12_goesFrom_111 (c_X12_goesInto C.inj hF) rfl ?_
          refine z_iload_n (j := 1) C d_X12_goesFrom_114 rfl ?_
          refine z_iconst (v := 1) C d_X12_goesFrom_115 (by decide) ?_
          refine z_iadd C d_X12_goesFrom_116 ?_
          exact r_i C hr rfl d_X12_goesFrom_117 hf
        · refine z_aload_n (j := 0) C d_X12_goesFrom_93 rfl ?_
          refine zg_X12_behind C rfl tw_1250 d_X12_goesFrom_94 ?_
          refine z_iload_n (j := 1) C d_X12_goesFrom_97 rfl ?_
          obtain ⟨hi98_0, hf⟩ := gd hf
          refine z_iald C rfl hi98_0 d_X12_goesFrom_98 ?_
          exact r_i C hr rfl d_X12_goesFrom_99 hf
      · refine z_aload_n (j := 0) C d_X12_goesFrom_66 rfl ?_
        refine z_iload_n (j := 1) C d_X12_goesFrom_67 rfl ?_
        obtain ⟨q68, hF, hf⟩ := bd hf
        refine z_callV1 (rest := []) C [aI p1] rfl (by decide) rfl rfl k_X12_doesOne tw_1749 ⟨by decide, by decide⟩ (Nat.le_of_ble_eq_true rfl) d_X12_goesFrom_68 (c_X12_doesOne C.inj hF) rfl ?_
        refine z_if_eq (tgt := 80) C d_X12_goesFrom_71 (by decide) hf (fun c71 hf => ?_) (fun c71 hf => ?_)
        · refine z_iconst (v := (-1)) C d_X12_goesFrom_80 (by decide) ?_
          exact z_sub [] rfl (t_X12_goesFrom_81 C hr  _ _ hf)
        · refine z_iload_n (j := 1) C d_X12_goesFrom_74 rfl ?_
          refine z_iconst (v := 1) C d_X12_goesFrom_75 (by decide) ?_
          refine z_iadd C d_X12_goesFrom_76 ?_
          refine z_goto (tgt := 81) C d_X12_goesFrom_77 (by decide) ?_
          exact z_sub [] rfl (t_X12_goesFrom_81 C hr  _ _ hf)
    · refine z_aload_n (j := 0) C d_X12_goesFrom_39 rfl ?_
      refine z_iload_n (j := 1) C d_X12_goesFrom_40 rfl ?_
      obtain ⟨q41, hF, hf⟩ := bd hf
      refine z_callV1 (rest := []) C [aI p1] rfl (by decide) rfl rfl k_X12_lends tw_1733 ⟨by decide, by decide⟩ (Nat.le_of_ble_eq_true rfl) d_X12_goesFrom_41 (c_X12_lends C.inj hF) rfl ?_
      refine z_if_eq (tgt := 53) C d_X12_goesFrom_44 (by decide) hf (fun c44 hf => ?_) (fun c44 hf => ?_)
      · refine z_iconst (v := (-1)) C d_X12_goesFrom_53 (by decide) ?_
        exact z_sub [] rfl (t_X12_goesFrom_54 C hr  _ _ hf)
      · refine z_iload_n (j := 1) C d_X12_goesFrom_47 rfl ?_
        refine z_iconst (v := 1) C d_X12_goesFrom_48 (by decide) ?_
        refine z_iadd C d_X12_goesFrom_49 ?_
        refine z_goto (tgt := 54) C d_X12_goesFrom_50 (by decide) ?_
        exact z_sub [] rfl (t_X12_goesFrom_54 C hr  _ _ hf)
  · refine z_aload_n (j := 0) C d_X12_goesFrom_9 rfl ?_
    refine z_bipush (v := 6) C d_X12_goesFrom_10 (by decide) ?_
    refine z_iload_n (j := 1) C d_X12_goesFrom_12 rfl ?_
    obtain ⟨q13, hF, hf⟩ := bd hf
    refine z_callV1 (rest := []) C [aI 6, aI p1] rfl (by decide) rfl rfl k_X12_stops tw_1725 ⟨by decide, by decide⟩ (Nat.le_of_ble_eq_true rfl) d_X12_goesFrom_13 (c_X12_stops C.inj hF) rfl ?_
    refine z_pop C d_X12_goesFrom_16 rfl ?_
    refine z_iconst (v := (-1)) C d_X12_goesFrom_17 (by decide) ?_
    exact r_i C hr rfl d_X12_goesFrom_18 hf
theorem d_X12_doesAll_0 : decode cX12_doesAll 0 = .ok (.iconst 0, 1) := by decide +kernel
theorem d_X12_doesAll_1 : decode cX12_doesAll 1 = .ok (.istore_n 1, 1) := by decide +kernel
theorem d_X12_doesAll_2 : decode cX12_doesAll 2 = .ok (.aload_n 0, 1) := by decide +kernel
theorem d_X12_doesAll_3 : decode cX12_doesAll 3 = .ok (.iconst 0, 1) := by decide +kernel
theorem d_X12_doesAll_4 : decode cX12_doesAll 4 = .ok (.putfield 463, 3) := by decide +kernel
theorem d_X12_doesAll_7 : decode cX12_doesAll 7 = .ok (.iload_n 1, 1) := by decide +kernel
theorem d_X12_doesAll_8 : decode cX12_doesAll 8 = .ok (.ifCond .lt 61, 3) := by decide +kernel
theorem d_X12_doesAll_11 : decode cX12_doesAll 11 = .ok (.aload_n 0, 1) := by decide +kernel
theorem d_X12_doesAll_12 : decode cX12_doesAll 12 = .ok (.getfield 463, 3) := by decide +kernel
theorem d_X12_doesAll_15 : decode cX12_doesAll 15 = .ok (.ifCond .gt 11, 3) := by decide +kernel
theorem d_X12_doesAll_18 : decode cX12_doesAll 18 = .ok (.iload_n 1, 1) := by decide +kernel
theorem d_X12_doesAll_19 : decode cX12_doesAll 19 = .ok (.aload_n 0, 1) := by decide +kernel
theorem d_X12_doesAll_20 : decode cX12_doesAll 20 = .ok (.getfield 417, 3) := by decide +kernel
theorem d_X12_doesAll_23 : decode cX12_doesAll 23 = .ok (.if_icmp .ge 46, 3) := by decide +kernel
theorem d_X12_doesAll_26 : decode cX12_doesAll 26 = .ok (.aload_n 0, 1) := by decide +kernel
theorem d_X12_doesAll_27 : decode cX12_doesAll 27 = .ok (.getfield 463, 3) := by decide +kernel
theorem d_X12_doesAll_30 : decode cX12_doesAll 30 = .ok (.ifCond .le 30, 3) := by decide +kernel
theorem d_X12_doesAll_33 : decode cX12_doesAll 33 = .ok (.iload_n 1, 1) := by decide +kernel
theorem d_X12_doesAll_34 : decode cX12_doesAll 34 = .ok (.aload_n 0, 1) := by decide +kernel
theorem d_X12_doesAll_35 : decode cX12_doesAll 35 = .ok (.getfield 86, 3) := by decide +kernel
theorem d_X12_doesAll_38 : decode cX12_doesAll 38 = .ok (.aload_n 0, 1) := by decide +kernel
theorem d_X12_doesAll_39 : decode cX12_doesAll 39 = .ok (.getfield 95, 3) := by decide +kernel
theorem d_X12_doesAll_42 : decode cX12_doesAll 42 = .ok (.aload_n 0, 1) := by decide +kernel
theorem d_X12_doesAll_43 : decode cX12_doesAll 43 = .ok (.getfield 463, 3) := by decide +kernel
theorem d_X12_doesAll_46 : decode cX12_doesAll 46 = .ok (.iconst 1, 1) := by decide +kernel
theorem d_X12_doesAll_47 : decode cX12_doesAll 47 = .ok (.isub, 1) := by decide +kernel
theorem d_X12_doesAll_48 : decode cX12_doesAll 48 = .ok (.iaload, 1) := by decide +kernel
theorem d_X12_doesAll_49 : decode cX12_doesAll 49 = .ok (.iaload, 1) := by decide +kernel
theorem d_X12_doesAll_50 : decode cX12_doesAll 50 = .ok (.if_icmp .ne 10, 3) := by decide +kernel
theorem d_X12_doesAll_53 : decode cX12_doesAll 53 = .ok (.aload_n 0, 1) := by decide +kernel
theorem d_X12_doesAll_54 : decode cX12_doesAll 54 = .ok (.invokevirtual 491, 3) := by decide +kernel
theorem d_X12_doesAll_57 : decode cX12_doesAll 57 = .ok (.goto 8, 3) := by decide +kernel
theorem d_X12_doesAll_60 : decode cX12_doesAll 60 = .ok (.aload_n 0, 1) := by decide +kernel
theorem d_X12_doesAll_61 : decode cX12_doesAll 61 = .ok (.iload_n 1, 1) := by decide +kernel
theorem d_X12_doesAll_62 : decode cX12_doesAll 62 = .ok (.invokevirtual 494, 3) := by decide +kernel
theorem d_X12_doesAll_65 : decode cX12_doesAll 65 = .ok (.istore_n 1, 1) := by decide +kernel
theorem d_X12_doesAll_66 : decode cX12_doesAll 66 = .ok (.goto (-59), 3) := by decide +kernel
theorem d_X12_doesAll_69 : decode cX12_doesAll 69 = .ok (.iload_n 1, 1) := by decide +kernel
theorem d_X12_doesAll_70 : decode cX12_doesAll 70 = .ok (.ifCond .lt 7, 3) := by decide +kernel
theorem d_X12_doesAll_73 : decode cX12_doesAll 73 = .ok (.iconst 1, 1) := by decide +kernel
theorem d_X12_doesAll_74 : decode cX12_doesAll 74 = .ok (.goto 4, 3) := by decide +kernel
theorem d_X12_doesAll_77 : decode cX12_doesAll 77 = .ok (.iconst 0, 1) := by decide +kernel
theorem d_X12_doesAll_78 : decode cX12_doesAll 78 = .ok (.ireturn, 1) := by decide +kernel
def f_X12_doesAll_65 (k7 : Int32 → Mem → Option (Int32 × Mem)) (s0 : Int32) (S : Mem) : Option (Int32 × Mem) := (k7 s0 S)
set_option maxRecDepth 20000 in
theorem t_X12_doesAll_65 {X : MC} {Γ : GG} (C : CX X Γ cX12_doesAll 2 "TickPoolsModel" 11 300) (hr : X.2.2.2.2.2.2.2.2.1.sig.returnType = some .boolean) {k7 : Int32 → Mem → Option (Int32 × Mem)} {q : Int32 × Mem} (hk7 : ∀ (v1 : Int32) (S : Mem), k7 v1 S = some q → ZZ X Γ 2 (QQ X Γ (some (aI q.1)) q.2) S 7 [(0, aR 20), (1, aI v1)] []) (s0 : Int32) (S : Mem) (hf : f_X12_doesAll_65 k7 s0 S = some q) : ZZ X Γ 2 (QQ X Γ (some (aI q.1)) q.2) S 65 [(0, aR 20)] [aI s0] := by
  unfold f_X12_doesAll_65 at hf
  refine z_istore_n (lv' := [(1, aI s0), (0, aR 20)]) C d_X12_doesAll_65 (by decide) rfl ?_
  refine z_goto (tgt := 7) C d_X12_doesAll_66 (by decide) ?_
  exact z_sub [1, 0] rfl (hk7 _ _ hf)
def f_X12_doesAll_60 (k7 : Int32 → Mem → Option (Int32 × Mem)) (v1 : Int32) (S : Mem) : Option (Int32 × Mem) := ((f_X12_goesFrom v1 S).bind fun q62 => (f_X12_doesAll_65 k7 q62.1 q62.2))
set_option maxRecDepth 20000 in
theorem t_X12_doesAll_60 {X : MC} {Γ : GG} (C : CX X Γ cX12_doesAll 2 "TickPoolsModel" 11 300) (hr : X.2.2.2.2.2.2.2.2.1.sig.returnType = some .boolean) {k7 : Int32 → Mem → Option (Int32 × Mem)} {q : Int32 × Mem} (hk7 : ∀ (v1 : Int32) (S : Mem), k7 v1 S = some q → ZZ X Γ 2 (QQ X Γ (some (aI q.1)) q.2) S 7 [(0, aR 20), (1, aI v1)] []) (v1 : Int32) (S : Mem) (hf : f_X12_doesAll_60 k7 v1 S = some q) : ZZ X Γ 2 (QQ X Γ (some (aI q.1)) q.2) S 60 [(0, aR 20), (1, aI v1)] [] := by
  unfold f_X12_doesAll_60 at hf
  refine z_aload_n (j := 0) C d_X12_doesAll_60 rfl ?_
  refine z_iload_n (j := 1) C d_X12_doesAll_61 rfl ?_
  obtain ⟨q62, hF, hf⟩ := bd hf
  refine z_callV1 (rest := []) C [aI v1] rfl (by decide) rfl rfl k_X12_goesFrom tw_1729 ⟨by decide, by decide⟩ (Nat.le_of_ble_eq_true rfl) d_X12_doesAll_62 (c_X12_goesFrom C.inj hF) rfl ?_
  exact z_sub [0] rfl (t_X12_doesAll_65 C hr hk7 _ _ hf)
def f_X12_doesAll_26 (k7 : Int32 → Mem → Option (Int32 × Mem)) (v1 : Int32) (S : Mem) : Option (Int32 × Mem) := (if (gI S 20 50) ≤ 0 then (f_X12_doesAll_60 k7 v1 S) else (if inb ((gI S 20 50) - 1) 4 = true then (if inb (gI S 35 ((((gI S 20 50) - 1) : Int32).toNatClampNeg)) 40 = true then (if v1 = (gI S 32 (((gI S 35 ((((gI S 20 50) - 1) : Int32).toNatClampNeg)) : Int32).toNatClampNeg)) then ((f_X12_comesOut S).bind fun q54 => (f_X12_doesAll_65 k7 q54.1 q54.2)) else (f_X12_doesAll_60 k7 v1 S)) else none) else none))
set_option maxRecDepth 20000 in
theorem t_X12_doesAll_26 {X : MC} {Γ : GG} (C : CX X Γ cX12_doesAll 2 "TickPoolsModel" 11 300) (hr : X.2.2.2.2.2.2.2.2.1.sig.returnType = some .boolean) {k7 : Int32 → Mem → Option (Int32 × Mem)} {q : Int32 × Mem} (hk7 : ∀ (v1 : Int32) (S : Mem), k7 v1 S = some q → ZZ X Γ 2 (QQ X Γ (some (aI q.1)) q.2) S 7 [(0, aR 20), (1, aI v1)] []) (v1 : Int32) (S : Mem) (hf : f_X12_doesAll_26 k7 v1 S = some q) : ZZ X Γ 2 (QQ X Γ (some (aI q.1)) q.2) S 26 [(0, aR 20), (1, aI v1)] [] := by
  unfold f_X12_doesAll_26 at hf
  refine z_aload_n (j := 0) C d_X12_doesAll_26 rfl ?_
  refine zg_X12_deep C rfl tw_1261 d_X12_doesAll_27 ?_
  refine z_if_le (tgt := 60) C d_X12_doesAll_30 (by decide) hf (fun c30 hf => ?_) (fun c30 hf => ?_)
  · exact z_sub [0, 1] rfl (t_X12_doesAll_60 C hr hk7 _ _ hf)
  · refine z_iload_n (j := 1) C d_X12_doesAll_33 rfl ?_
    refine z_aload_n (j := 0) C d_X12_doesAll_34 rfl ?_
    refine zg_X12_behind C rfl tw_1250 d_X12_doesAll_35 ?_
    refine z_aload_n (j := 0) C d_X12_doesAll_38 rfl ?_
    refine zg_X12_within C rfl tw_1258 d_X12_doesAll_39 ?_
    refine z_aload_n (j := 0) C d_X12_doesAll_42 rfl ?_
    refine zg_X12_deep C rfl tw_1261 d_X12_doesAll_43 ?_
    refine z_iconst (v := 1) C d_X12_doesAll_46 (by decide) ?_
    refine z_isub C d_X12_doesAll_47 ?_
    obtain ⟨hi48_0, hf⟩ := gd hf
    refine z_iald C rfl hi48_0 d_X12_doesAll_48 ?_
    obtain ⟨hi49_1, hf⟩ := gd hf
    refine z_iald C rfl hi49_1 d_X12_doesAll_49 ?_
    refine z_icmp_ne (tgt := 60) C d_X12_doesAll_50 (by decide) hf (fun c50 hf => ?_) (fun c50 hf => ?_)
    · exact z_sub [0, 1] rfl (t_X12_doesAll_60 C hr hk7 _ _ hf)
    · refine z_aload_n (j := 0) C d_X12_doesAll_53 rfl ?_
      obtain ⟨q54, hF, hf⟩ := bd hf
      refine z_callV1 (rest := []) C [] rfl (by decide) rfl rfl k_X12_comesOut tw_1717 ⟨by decide, by decide⟩ (Nat.le_of_ble_eq_true rfl) d_X12_doesAll_54 (c_X12_comesOut C.inj hF) rfl ?_
      refine z_goto (tgt := 65) C d_X12_doesAll_57 (by decide) ?_
      exact z_sub [0] rfl (t_X12_doesAll_65 C hr hk7 _ _ hf)
def f_X12_doesAll_78 (s0 : Int32) (S : Mem) : Option (Int32 × Mem) := (if isB s0 = true then (some (s0, S)) else none)
set_option maxRecDepth 20000 in
theorem t_X12_doesAll_78 {X : MC} {Γ : GG} (C : CX X Γ cX12_doesAll 2 "TickPoolsModel" 11 300) (hr : X.2.2.2.2.2.2.2.2.1.sig.returnType = some .boolean) {q : Int32 × Mem} (s0 : Int32) (S : Mem) (hf : f_X12_doesAll_78 s0 S = some q) : ZZ X Γ 2 (QQ X Γ (some (aI q.1)) q.2) S 78 [] [aI s0] := by
  unfold f_X12_doesAll_78 at hf
  obtain ⟨hb78_0, hf⟩ := gd hf
  exact r_i C hr (isB_nar hb78_0).1 d_X12_doesAll_78 hf
def f_X12_doesAll_69 (v1 : Int32) (S : Mem) : Option (Int32 × Mem) := (if v1 < 0 then (f_X12_doesAll_78  0 S) else (f_X12_doesAll_78  1 S))
set_option maxRecDepth 20000 in
theorem t_X12_doesAll_69 {X : MC} {Γ : GG} (C : CX X Γ cX12_doesAll 2 "TickPoolsModel" 11 300) (hr : X.2.2.2.2.2.2.2.2.1.sig.returnType = some .boolean) {q : Int32 × Mem} (v1 : Int32) (S : Mem) (hf : f_X12_doesAll_69 v1 S = some q) : ZZ X Γ 2 (QQ X Γ (some (aI q.1)) q.2) S 69 [(1, aI v1)] [] := by
  unfold f_X12_doesAll_69 at hf
  refine z_iload_n (j := 0) C d_X12_doesAll_69 rfl ?_
  refine z_if_lt (tgt := 77) C d_X12_doesAll_70 (by decide) hf (fun c70 hf => ?_) (fun c70 hf => ?_)
  · refine z_iconst (v := 0) C d_X12_doesAll_77 (by decide) ?_
    exact z_sub [] rfl (t_X12_doesAll_78 C hr  _ _ hf)
  · refine z_iconst (v := 1) C d_X12_doesAll_73 (by decide) ?_
    refine z_goto (tgt := 78) C d_X12_doesAll_74 (by decide) ?_
    exact z_sub [] rfl (t_X12_doesAll_78 C hr  _ _ hf)
def f_X12_doesAll_7B (k7 : Int32 → Mem → Option (Int32 × Mem)) (v1 : Int32) (S : Mem) : Option (Int32 × Mem) := (if v1 < 0 then (f_X12_doesAll_69  v1 S) else (if 0 < (gI S 20 50) then (f_X12_doesAll_26 k7 v1 S) else (if (gI S 20 34) ≤ v1 then (f_X12_doesAll_69  v1 S) else (f_X12_doesAll_26 k7 v1 S))))
set_option maxRecDepth 20000 in
theorem t_X12_doesAll_7B {X : MC} {Γ : GG} (C : CX X Γ cX12_doesAll 2 "TickPoolsModel" 11 300) (hr : X.2.2.2.2.2.2.2.2.1.sig.returnType = some .boolean) {k7 : Int32 → Mem → Option (Int32 × Mem)} {q : Int32 × Mem} (hk7 : ∀ (v1 : Int32) (S : Mem), k7 v1 S = some q → ZZ X Γ 2 (QQ X Γ (some (aI q.1)) q.2) S 7 [(0, aR 20), (1, aI v1)] []) (v1 : Int32) (S : Mem) (hf : f_X12_doesAll_7B k7 v1 S = some q) : ZZ X Γ 2 (QQ X Γ (some (aI q.1)) q.2) S 7 [(0, aR 20), (1, aI v1)] [] := by
  unfold f_X12_doesAll_7B at hf
  refine z_iload_n (j := 1) C d_X12_doesAll_7 rfl ?_
  refine z_if_lt (tgt := 69) C d_X12_doesAll_8 (by decide) hf (fun c8 hf => ?_) (fun c8 hf => ?_)
  · exact z_sub [1] rfl (t_X12_doesAll_69 C hr  _ _ hf)
  · refine z_aload_n (j := 0) C d_X12_doesAll_11 rfl ?_
    refine zg_X12_deep C rfl tw_1261 d_X12_doesAll_12 ?_
    refine z_if_gt (tgt := 26) C d_X12_doesAll_15 (by decide) hf (fun c15 hf => ?_) (fun c15 hf => ?_)
    · exact z_sub [0, 1] rfl (t_X12_doesAll_26 C hr hk7 _ _ hf)
    · refine z_iload_n (j := 1) C d_X12_doesAll_18 rfl ?_
      refine z_aload_n (j := 0) C d_X12_doesAll_19 rfl ?_
      refine zg_X12_stepMany C rfl tw_1245 d_X12_doesAll_20 ?_
      refine z_icmp_ge (tgt := 69) C d_X12_doesAll_23 (by decide) hf (fun c23 hf => ?_) (fun c23 hf => ?_)
      · exact z_sub [1] rfl (t_X12_doesAll_69 C hr  _ _ hf)
      · exact z_sub [0, 1] rfl (t_X12_doesAll_26 C hr hk7 _ _ hf)
def f_X12_doesAll_7 : Nat → Int32 → Mem → Option (Int32 × Mem)
  | 0 => fun _ _ => none
  | n + 1 => f_X12_doesAll_7B (f_X12_doesAll_7 n)
theorem t_X12_doesAll_7 {X : MC} {Γ : GG} (C : CX X Γ cX12_doesAll 2 "TickPoolsModel" 11 300) (hr : X.2.2.2.2.2.2.2.2.1.sig.returnType = some .boolean) {q : Int32 × Mem} : ∀ (n : Nat) (v1 : Int32) (S : Mem) (hf : f_X12_doesAll_7 n v1 S = some q), ZZ X Γ 2 (QQ X Γ (some (aI q.1)) q.2) S 7 [(0, aR 20), (1, aI v1)] []
  | 0, _, _, hf => nomatch (show (none : Option (Int32 × Mem)) = some q from hf)
  | n + 1, v1, S, hf => t_X12_doesAll_7B C hr (t_X12_doesAll_7 C hr n) v1 S hf
/-- TickPoolsModel.doesAll()Z -/
def f_X12_doesAll (S : Mem) : Option (Int32 × Mem) := (f_X12_doesAll_7  100000 0 (sI S 20 50 0))
set_option maxRecDepth 20000 in
theorem c_X12_doesAll {l : Launch} {Γ : GG} (hI : Inj Γ) {S : Mem} {q : Int32 × Mem} (hf : f_X12_doesAll S = some q) : MM l Γ yX12_doesAll cX12_doesAll 2 (some .boolean) 11 300 [aR 20] S (some (aI q.1)) q.2 := by
  refine met_of hI "TickPoolsModel" rfl (by decide +kernel) (Nat.le_of_ble_eq_true rfl) (fun X hX C hr => ?_)
  unfold f_X12_doesAll at hf
  show ZZ X Γ 2 _ S 0 [(0, aR 20)] []
  refine z_iconst (v := 0) C d_X12_doesAll_0 (by decide) ?_
  refine z_istore_n (lv' := [(1, aI 0), (0, aR 20)]) C d_X12_doesAll_1 (by decide) rfl ?_
  refine z_aload_n (j := 1) C d_X12_doesAll_2 rfl ?_
  refine z_iconst (v := 0) C d_X12_doesAll_3 (by decide) ?_
  refine zp_X12_deep C rfl tw_1261 d_X12_doesAll_4 ?_
  exact z_sub [1, 0] rfl (t_X12_doesAll_7 C hr  100000 _ _ hf)
theorem d_X12_bundle_0 : decode cX12_bundle 0 = .ok (.aload_n 0, 1) := by decide +kernel
theorem d_X12_bundle_1 : decode cX12_bundle 1 = .ok (.iload_n 1, 1) := by decide +kernel
theorem d_X12_bundle_2 : decode cX12_bundle 2 = .ok (.invokevirtual 281, 3) := by decide +kernel
theorem d_X12_bundle_5 : decode cX12_bundle 5 = .ok (.ifCond .ne 5, 3) := by decide +kernel
theorem d_X12_bundle_8 : decode cX12_bundle 8 = .ok (.iconst (-1), 1) := by decide +kernel
theorem d_X12_bundle_9 : decode cX12_bundle 9 = .ok (.ireturn, 1) := by decide +kernel
theorem d_X12_bundle_10 : decode cX12_bundle 10 = .ok (.aload_n 0, 1) := by decide +kernel
theorem d_X12_bundle_11 : decode cX12_bundle 11 = .ok (.invokevirtual 497, 3) := by decide +kernel
theorem d_X12_bundle_14 : decode cX12_bundle 14 = .ok (.istore_n 2, 1) := by decide +kernel
theorem d_X12_bundle_15 : decode cX12_bundle 15 = .ok (.aload_n 0, 1) := by decide +kernel
theorem d_X12_bundle_16 : decode cX12_bundle 16 = .ok (.iconst 0, 1) := by decide +kernel
theorem d_X12_bundle_17 : decode cX12_bundle 17 = .ok (.putfield 134, 3) := by decide +kernel
theorem d_X12_bundle_20 : decode cX12_bundle 20 = .ok (.iload_n 2, 1) := by decide +kernel
theorem d_X12_bundle_21 : decode cX12_bundle 21 = .ok (.ifCond .ne 11, 3) := by decide +kernel
theorem d_X12_bundle_24 : decode cX12_bundle 24 = .ok (.bipush (-2), 2) := by decide +kernel
theorem d_X12_bundle_26 : decode cX12_bundle 26 = .ok (.aload_n 0, 1) := by decide +kernel
theorem d_X12_bundle_27 : decode cX12_bundle 27 = .ok (.getfield 141, 3) := by decide +kernel
theorem d_X12_bundle_30 : decode cX12_bundle 30 = .ok (.isub, 1) := by decide +kernel
theorem d_X12_bundle_31 : decode cX12_bundle 31 = .ok (.ireturn, 1) := by decide +kernel
theorem d_X12_bundle_32 : decode cX12_bundle 32 = .ok (.aload_n 0, 1) := by decide +kernel
theorem d_X12_bundle_33 : decode cX12_bundle 33 = .ok (.iconst 1, 1) := by decide +kernel
theorem d_X12_bundle_34 : decode cX12_bundle 34 = .ok (.invokevirtual 401, 3) := by decide +kernel
theorem d_X12_bundle_37 : decode cX12_bundle 37 = .ok (.aload_n 0, 1) := by decide +kernel
theorem d_X12_bundle_38 : decode cX12_bundle 38 = .ok (.iload_n 1, 1) := by decide +kernel
theorem d_X12_bundle_39 : decode cX12_bundle 39 = .ok (.putfield 443, 3) := by decide +kernel
theorem d_X12_bundle_42 : decode cX12_bundle 42 = .ok (.aload_n 0, 1) := by decide +kernel
theorem d_X12_bundle_43 : decode cX12_bundle 43 = .ok (.iconst 0, 1) := by decide +kernel
theorem d_X12_bundle_44 : decode cX12_bundle 44 = .ok (.putfield 482, 3) := by decide +kernel
theorem d_X12_bundle_47 : decode cX12_bundle 47 = .ok (.aload_n 0, 1) := by decide +kernel
theorem d_X12_bundle_48 : decode cX12_bundle 48 = .ok (.lconst 0, 1) := by decide +kernel
theorem d_X12_bundle_49 : decode cX12_bundle 49 = .ok (.putfield 440, 3) := by decide +kernel
theorem d_X12_bundle_52 : decode cX12_bundle 52 = .ok (.aload_n 0, 1) := by decide +kernel
theorem d_X12_bundle_53 : decode cX12_bundle 53 = .ok (.iconst 0, 1) := by decide +kernel
theorem d_X12_bundle_54 : decode cX12_bundle 54 = .ok (.putfield 437, 3) := by decide +kernel
theorem d_X12_bundle_57 : decode cX12_bundle 57 = .ok (.aload_n 0, 1) := by decide +kernel
theorem d_X12_bundle_58 : decode cX12_bundle 58 = .ok (.invokevirtual 500, 3) := by decide +kernel
theorem d_X12_bundle_61 : decode cX12_bundle 61 = .ok (.ifCond .eq 8, 3) := by decide +kernel
theorem d_X12_bundle_64 : decode cX12_bundle 64 = .ok (.aload_n 0, 1) := by decide +kernel
theorem d_X12_bundle_65 : decode cX12_bundle 65 = .ok (.getfield 482, 3) := by decide +kernel
theorem d_X12_bundle_68 : decode cX12_bundle 68 = .ok (.ireturn, 1) := by decide +kernel
theorem d_X12_bundle_69 : decode cX12_bundle 69 = .ok (.aload_n 0, 1) := by decide +kernel
theorem d_X12_bundle_70 : decode cX12_bundle 70 = .ok (.iconst 1, 1) := by decide +kernel
theorem d_X12_bundle_71 : decode cX12_bundle 71 = .ok (.invokevirtual 407, 3) := by decide +kernel
theorem d_X12_bundle_74 : decode cX12_bundle 74 = .ok (.bipush (-2), 2) := by decide +kernel
theorem d_X12_bundle_76 : decode cX12_bundle 76 = .ok (.aload_n 0, 1) := by decide +kernel
theorem d_X12_bundle_77 : decode cX12_bundle 77 = .ok (.getfield 141, 3) := by decide +kernel
theorem d_X12_bundle_80 : decode cX12_bundle 80 = .ok (.isub, 1) := by decide +kernel
theorem d_X12_bundle_81 : decode cX12_bundle 81 = .ok (.ireturn, 1) := by decide +kernel
def f_X12_bundle_52 (S : Mem) : Option (Int32 × Mem) := ((f_X12_doesAll (sI S 20 46 0)).bind fun q58 => (if q58.1 = 0 then ((f_X12_laysBack 1 q58.2).bind fun q71 => (some (((-2) - (gI q71.2 20 10)), q71.2))) else (some ((gI q58.2 20 44), q58.2))))
set_option maxRecDepth 20000 in
theorem t_X12_bundle_52 {X : MC} {Γ : GG} (C : CX X Γ cX12_bundle 3 "TickPoolsModel" 12 321) (hr : X.2.2.2.2.2.2.2.2.1.sig.returnType = some .int) {q : Int32 × Mem} (S : Mem) (hf : f_X12_bundle_52 S = some q) : ZZ X Γ 3 (QQ X Γ (some (aI q.1)) q.2) S 52 [(0, aR 20)] [] := by
  unfold f_X12_bundle_52 at hf
  refine z_aload_n (j := 0) C d_X12_bundle_52 rfl ?_
  refine z_iconst (v := 0) C d_X12_bundle_53 (by decide) ?_
  refine zp_X12_locked C rfl tw_1257 d_X12_bundle_54 ?_
  refine z_aload_n (j := 0) C d_X12_bundle_57 rfl ?_
  obtain ⟨q58, hF, hf⟩ := bd hf
  refine z_callV1 (rest := []) C [] rfl (by decide) rfl rfl k_X12_doesAll tw_1713 ⟨by decide, by decide⟩ (Nat.le_of_ble_eq_true rfl) d_X12_bundle_58 (c_X12_doesAll C.inj hF) rfl ?_
  refine z_if_eq (tgt := 69) C d_X12_bundle_61 (by decide) hf (fun c61 hf => ?_) (fun c61 hf => ?_)
  · refine z_aload_n (j := 0) C d_X12_bundle_69 rfl ?_
    refine z_iconst (v := 1) C d_X12_bundle_70 (by decide) ?_
    obtain ⟨q71, hF, hf⟩ := bd hf
    refine z_callV0 (rest := []) C [aI 1] rfl (by decide) rfl rfl k_X12_laysBack tw_1677 ⟨by decide, by decide⟩ (Nat.le_of_ble_eq_true rfl) d_X12_bundle_71 (c_X12_laysBack C.inj hF) rfl ?_
    refine z_bipush (v := (-2)) C d_X12_bundle_74 (by decide) ?_
    refine z_aload_n (j := 0) C d_X12_bundle_76 rfl ?_
    refine zg_X12_wrong C rfl tw_1221 d_X12_bundle_77 ?_
    refine z_isub C d_X12_bundle_80 ?_
    exact r_i C hr rfl d_X12_bundle_81 hf
  · refine z_aload_n (j := 0) C d_X12_bundle_64 rfl ?_
    refine zg_X12_doneMany C rfl tw_1255 d_X12_bundle_65 ?_
    exact r_i C hr rfl d_X12_bundle_68 hf
/-- TickPoolsModel.bundle(I)I -/
def f_X12_bundle (p1 : Int32) (S : Mem) : Option (Int32 × Mem) := ((f_X12_isPerson p1 S).bind fun q2 => (if q2.1 = 0 then (some ((-1), q2.2)) else ((f_X12_readsBundle q2.2).bind fun q11 => (if q11.1 = 0 then (some (((-2) - (gI (sI q11.2 20 8 0) 20 10)), (sI q11.2 20 8 0))) else ((f_X12_keeps 1 (sI q11.2 20 8 0)).bind fun q34 => (f_X12_bundle_52  (sL (sI (sI q34.2 20 43 p1) 20 44 0) 20 45 0)))))))
set_option maxRecDepth 20000 in
theorem c_X12_bundle {l : Launch} {Γ : GG} (hI : Inj Γ) {p1 : Int32} {S : Mem} {q : Int32 × Mem} (hf : f_X12_bundle p1 S = some q) : MM l Γ yX12_bundle cX12_bundle 3 (some .int) 12 321 [aR 20, aI p1] S (some (aI q.1)) q.2 := by
  refine met_of hI "TickPoolsModel" rfl (by decide +kernel) (Nat.le_of_ble_eq_true rfl) (fun X hX C hr => ?_)
  unfold f_X12_bundle at hf
  show ZZ X Γ 3 _ S 0 [(0, aR 20), (1, aI p1)] []
  refine z_aload_n (j := 0) C d_X12_bundle_0 rfl ?_
  refine z_iload_n (j := 1) C d_X12_bundle_1 rfl ?_
  obtain ⟨q2, hF, hf⟩ := bd hf
  refine z_callV1 (rest := []) C [aI p1] rfl (by decide) rfl rfl k_X12_isPerson tw_1467 ⟨by decide, by decide⟩ (Nat.le_of_ble_eq_true rfl) d_X12_bundle_2 (c_X12_isPerson C.inj hF) rfl ?_
  refine z_if_ne (tgt := 10) C d_X12_bundle_5 (by decide) hf (fun c5 hf => ?_) (fun c5 hf => ?_)
  · refine z_aload_n (j := 0) C d_X12_bundle_10 rfl ?_
    obtain ⟨q11, hF, hf⟩ := bd hf
    refine z_callV1 (rest := []) C [] rfl (by decide) rfl rfl k_X12_readsBundle tw_1685 ⟨by decide, by decide⟩ (Nat.le_of_ble_eq_true rfl) d_X12_bundle_11 (c_X12_readsBundle C.inj hF) rfl ?_
    refine z_istore_n (lv' := [(2, aI q11.1), (0, aR 20), (1, aI p1)]) C d_X12_bundle_14 (by decide) rfl ?_
    refine z_aload_n (j := 1) C d_X12_bundle_15 rfl ?_
    refine z_iconst (v := 0) C d_X12_bundle_16 (by decide) ?_
    refine zp_X12_taped C rfl tw_1219 d_X12_bundle_17 ?_
    refine z_iload_n (j := 0) C d_X12_bundle_20 rfl ?_
    refine z_if_ne (tgt := 32) C d_X12_bundle_21 (by decide) hf (fun c21 hf => ?_) (fun c21 hf => ?_)
    · refine z_aload_n (j := 1) C d_X12_bundle_32 rfl ?_
      refine z_iconst (v := 1) C d_X12_bundle_33 (by decide) ?_
      obtain ⟨q34, hF, hf⟩ := bd hf
      refine z_callV0 (rest := []) C [aI 1] rfl (by decide) rfl rfl k_X12_keeps tw_1670 ⟨by decide, by decide⟩ (Nat.le_of_ble_eq_true rfl) d_X12_bundle_34 (c_X12_keeps C.inj hF) rfl ?_
      refine z_aload_n (j := 1) C d_X12_bundle_37 rfl ?_
      refine z_iload_n (j := 2) C d_X12_bundle_38 rfl ?_
      refine zp_X12_who C rfl tw_1254 d_X12_bundle_39 ?_
      refine z_aload_n (j := 1) C d_X12_bundle_42 rfl ?_
      refine z_iconst (v := 0) C d_X12_bundle_43 (by decide) ?_
      refine zp_X12_doneMany C rfl tw_1255 d_X12_bundle_44 ?_
      refine z_aload_n (j := 1) C d_X12_bundle_47 rfl ?_
      refine z_lconst (v := 0) C d_X12_bundle_48 (by decide) ?_
      refine zp_X12_got C rfl tw_1256 d_X12_bundle_49 ?_
      exact z_sub [1] rfl (t_X12_bundle_52 C hr  _ hf)
    · refine z_bipush (v := (-2)) C d_X12_bundle_24 (by decide) ?_
      refine z_aload_n (j := 1) C d_X12_bundle_26 rfl ?_
      refine zg_X12_wrong C rfl tw_1221 d_X12_bundle_27 ?_
      refine z_isub C d_X12_bundle_30 ?_
      exact r_i C hr rfl d_X12_bundle_31 hf
  · refine z_iconst (v := (-1)) C d_X12_bundle_8 (by decide) ?_
    exact r_i C hr rfl d_X12_bundle_9 hf
theorem d_X12_root_0 : decode cX12_root 0 = .ok (.iload_n 1, 1) := by decide +kernel
theorem d_X12_root_1 : decode cX12_root 1 = .ok (.i2l, 1) := by decide +kernel
theorem d_X12_root_2 : decode cX12_root 2 = .ok (.lconst 0, 1) := by decide +kernel
theorem d_X12_root_3 : decode cX12_root 3 = .ok (.ldc2_w 279, 3) := by decide +kernel
theorem d_X12_root_6 : decode cX12_root 6 = .ok (.invokestatic 137, 3) := by decide +kernel
theorem d_X12_root_9 : decode cX12_root 9 = .ok (.ifCond .eq 13, 3) := by decide +kernel
theorem d_X12_root_12 : decode cX12_root 12 = .ok (.aload_n 0, 1) := by decide +kernel
theorem d_X12_root_13 : decode cX12_root 13 = .ok (.getfield 7, 3) := by decide +kernel
theorem d_X12_root_16 : decode cX12_root 16 = .ok (.iload_n 1, 1) := by decide +kernel
theorem d_X12_root_17 : decode cX12_root 17 = .ok (.laload, 1) := by decide +kernel
theorem d_X12_root_18 : decode cX12_root 18 = .ok (.l2i, 1) := by decide +kernel
theorem d_X12_root_19 : decode cX12_root 19 = .ok (.goto 4, 3) := by decide +kernel
theorem d_X12_root_22 : decode cX12_root 22 = .ok (.iconst (-1), 1) := by decide +kernel
theorem d_X12_root_23 : decode cX12_root 23 = .ok (.ireturn, 1) := by decide +kernel
def f_X12_root_23 (s0 : Int32) (S : Mem) : Option (Int32 × Mem) := (some (s0, S))
set_option maxRecDepth 20000 in
theorem t_X12_root_23 {X : MC} {Γ : GG} (C : CX X Γ cX12_root 2 "TickPoolsModel" 1 25) (hr : X.2.2.2.2.2.2.2.2.1.sig.returnType = some .int) {q : Int32 × Mem} (s0 : Int32) (S : Mem) (hf : f_X12_root_23 s0 S = some q) : ZZ X Γ 2 (QQ X Γ (some (aI q.1)) q.2) S 23 [] [aI s0] := by
  unfold f_X12_root_23 at hf
  exact r_i C hr rfl d_X12_root_23 hf
/-- TickPoolsModel.root(I)I -/
def f_X12_root (p1 : Int32) (S : Mem) : Option (Int32 × Mem) := ((f_X12_isIn (p1.toInt64) 0 40 S).bind fun q6 => (if q6.1 = 0 then (f_X12_root_23  (-1) q6.2) else (if inb p1 41 = true then (f_X12_root_23  (((gL q6.2 21 ((p1 : Int32).toNatClampNeg)) : Int64).toInt32) q6.2) else none)))
set_option maxRecDepth 20000 in
theorem c_X12_root {l : Launch} {Γ : GG} (hI : Inj Γ) {p1 : Int32} {S : Mem} {q : Int32 × Mem} (hf : f_X12_root p1 S = some q) : MM l Γ yX12_root cX12_root 2 (some .int) 1 25 [aR 20, aI p1] S (some (aI q.1)) q.2 := by
  refine met_of hI "TickPoolsModel" rfl (by decide +kernel) (Nat.le_of_ble_eq_true rfl) (fun X hX C hr => ?_)
  unfold f_X12_root at hf
  show ZZ X Γ 2 _ S 0 [(0, aR 20), (1, aI p1)] []
  refine z_iload_n (j := 1) C d_X12_root_0 rfl ?_
  refine z_i2l C d_X12_root_1 ?_
  refine z_lconst (v := 0) C d_X12_root_2 (by decide) ?_
  refine z_ldc2 (v := 40) C tw_1479 d_X12_root_3 ?_
  obtain ⟨q6, hF, hf⟩ := bd hf
  refine z_callS1 (rest := []) C [aJ (p1.toInt64), aJ 0, aJ 40] k_X12_isIn tw_1385 ⟨by decide, by decide⟩ (Nat.le_of_ble_eq_true rfl) d_X12_root_6 (c_X12_isIn C.inj hF) rfl ?_
  refine z_if_eq (tgt := 22) C d_X12_root_9 (by decide) hf (fun c9 hf => ?_) (fun c9 hf => ?_)
  · refine z_iconst (v := (-1)) C d_X12_root_22 (by decide) ?_
    exact z_sub [] rfl (t_X12_root_23 C hr  _ _ hf)
  · refine z_aload_n (j := 0) C d_X12_root_12 rfl ?_
    refine zg_X12_rootOf C rfl tw_1211 d_X12_root_13 ?_
    refine z_iload_n (j := 1) C d_X12_root_16 rfl ?_
    obtain ⟨hi17_0, hf⟩ := gd hf
    refine z_lald C rfl hi17_0 d_X12_root_17 ?_
    refine z_l2i C d_X12_root_18 ?_
    refine z_goto (tgt := 23) C d_X12_root_19 (by decide) ?_
    exact z_sub [] rfl (t_X12_root_23 C hr  _ _ hf)
theorem d_X12_purse_0 : decode cX12_purse 0 = .ok (.aload_n 0, 1) := by decide +kernel
theorem d_X12_purse_1 : decode cX12_purse 1 = .ok (.iload_n 1, 1) := by decide +kernel
theorem d_X12_purse_2 : decode cX12_purse 2 = .ok (.invokevirtual 281, 3) := by decide +kernel
theorem d_X12_purse_5 : decode cX12_purse 5 = .ok (.ifCond .eq 21, 3) := by decide +kernel
theorem d_X12_purse_8 : decode cX12_purse 8 = .ok (.aload_n 0, 1) := by decide +kernel
theorem d_X12_purse_9 : decode cX12_purse 9 = .ok (.iload_n 2, 1) := by decide +kernel
theorem d_X12_purse_10 : decode cX12_purse 10 = .ok (.invokevirtual 475, 3) := by decide +kernel
theorem d_X12_purse_13 : decode cX12_purse 13 = .ok (.ifCond .eq 13, 3) := by decide +kernel
theorem d_X12_purse_16 : decode cX12_purse 16 = .ok (.aload_n 0, 1) := by decide +kernel
theorem d_X12_purse_17 : decode cX12_purse 17 = .ok (.iload_n 1, 1) := by decide +kernel
theorem d_X12_purse_18 : decode cX12_purse 18 = .ok (.iload_n 2, 1) := by decide +kernel
theorem d_X12_purse_19 : decode cX12_purse 19 = .ok (.invokevirtual 300, 3) := by decide +kernel
theorem d_X12_purse_22 : decode cX12_purse 22 = .ok (.l2i, 1) := by decide +kernel
theorem d_X12_purse_23 : decode cX12_purse 23 = .ok (.goto 4, 3) := by decide +kernel
theorem d_X12_purse_26 : decode cX12_purse 26 = .ok (.iconst (-1), 1) := by decide +kernel
theorem d_X12_purse_27 : decode cX12_purse 27 = .ok (.ireturn, 1) := by decide +kernel
def f_X12_purse_27 (s0 : Int32) (S : Mem) : Option (Int32 × Mem) := (some (s0, S))
set_option maxRecDepth 20000 in
theorem t_X12_purse_27 {X : MC} {Γ : GG} (C : CX X Γ cX12_purse 3 "TickPoolsModel" 1 22) (hr : X.2.2.2.2.2.2.2.2.1.sig.returnType = some .int) {q : Int32 × Mem} (s0 : Int32) (S : Mem) (hf : f_X12_purse_27 s0 S = some q) : ZZ X Γ 3 (QQ X Γ (some (aI q.1)) q.2) S 27 [] [aI s0] := by
  unfold f_X12_purse_27 at hf
  exact r_i C hr rfl d_X12_purse_27 hf
def f_X12_purse_26 (S : Mem) : Option (Int32 × Mem) := (f_X12_purse_27  (-1) S)
set_option maxRecDepth 20000 in
theorem t_X12_purse_26 {X : MC} {Γ : GG} (C : CX X Γ cX12_purse 3 "TickPoolsModel" 1 22) (hr : X.2.2.2.2.2.2.2.2.1.sig.returnType = some .int) {q : Int32 × Mem} (S : Mem) (hf : f_X12_purse_26 S = some q) : ZZ X Γ 3 (QQ X Γ (some (aI q.1)) q.2) S 26 [] [] := by
  unfold f_X12_purse_26 at hf
  refine z_iconst (v := (-1)) C d_X12_purse_26 (by decide) ?_
  exact z_sub [] rfl (t_X12_purse_27 C hr  _ _ hf)
/-- TickPoolsModel.purse(II)I -/
def f_X12_purse (p1 : Int32) (p2 : Int32) (S : Mem) : Option (Int32 × Mem) := ((f_X12_isPerson p1 S).bind fun q2 => (if q2.1 = 0 then (f_X12_purse_26  q2.2) else ((f_X12_isThing p2 q2.2).bind fun q10 => (if q10.1 = 0 then (f_X12_purse_26  q10.2) else ((f_X12_inPurse p1 p2 q10.2).bind fun q19 => (f_X12_purse_27  ((q19.1 : Int64).toInt32) q19.2))))))
set_option maxRecDepth 20000 in
theorem c_X12_purse {l : Launch} {Γ : GG} (hI : Inj Γ) {p1 : Int32} {p2 : Int32} {S : Mem} {q : Int32 × Mem} (hf : f_X12_purse p1 p2 S = some q) : MM l Γ yX12_purse cX12_purse 3 (some .int) 1 22 [aR 20, aI p1, aI p2] S (some (aI q.1)) q.2 := by
  refine met_of hI "TickPoolsModel" rfl (by decide +kernel) (Nat.le_of_ble_eq_true rfl) (fun X hX C hr => ?_)
  unfold f_X12_purse at hf
  show ZZ X Γ 3 _ S 0 [(0, aR 20), (1, aI p1), (2, aI p2)] []
  refine z_aload_n (j := 0) C d_X12_purse_0 rfl ?_
  refine z_iload_n (j := 1) C d_X12_purse_1 rfl ?_
  obtain ⟨q2, hF, hf⟩ := bd hf
  refine z_callV1 (rest := []) C [aI p1] rfl (by decide) rfl rfl k_X12_isPerson tw_1467 ⟨by decide, by decide⟩ (Nat.le_of_ble_eq_true rfl) d_X12_purse_2 (c_X12_isPerson C.inj hF) rfl ?_
  refine z_if_eq (tgt := 26) C d_X12_purse_5 (by decide) hf (fun c5 hf => ?_) (fun c5 hf => ?_)
  · exact z_sub [] rfl (t_X12_purse_26 C hr  _ hf)
  · refine z_aload_n (j := 0) C d_X12_purse_8 rfl ?_
    refine z_iload_n (j := 2) C d_X12_purse_9 rfl ?_
    obtain ⟨q10, hF, hf⟩ := bd hf
    refine z_callV1 (rest := []) C [aI p2] rfl (by decide) rfl rfl k_X12_isThing tw_1764 ⟨by decide, by decide⟩ (Nat.le_of_ble_eq_true rfl) d_X12_purse_10 (c_X12_isThing C.inj hF) rfl ?_
    refine z_if_eq (tgt := 26) C d_X12_purse_13 (by decide) hf (fun c13 hf => ?_) (fun c13 hf => ?_)
    · exact z_sub [] rfl (t_X12_purse_26 C hr  _ hf)
    · refine z_aload_n (j := 0) C d_X12_purse_16 rfl ?_
      refine z_iload_n (j := 1) C d_X12_purse_17 rfl ?_
      refine z_iload_n (j := 2) C d_X12_purse_18 rfl ?_
      obtain ⟨q19, hF, hf⟩ := bd hf
      refine z_callV1 (rest := []) C [aI p1, aI p2] rfl (by decide) rfl rfl k_X12_inPurse tw_1521 ⟨by decide, by decide⟩ (Nat.le_of_ble_eq_true rfl) d_X12_purse_19 (c_X12_inPurse C.inj hF) rfl ?_
      refine z_l2i C d_X12_purse_22 ?_
      refine z_goto (tgt := 27) C d_X12_purse_23 (by decide) ?_
      exact z_sub [] rfl (t_X12_purse_27 C hr  _ _ hf)
theorem d_X12_overIn_0 : decode cX12_overIn 0 = .ok (.aload_n 0, 1) := by decide +kernel
theorem d_X12_overIn_1 : decode cX12_overIn 1 = .ok (.iload_n 1, 1) := by decide +kernel
theorem d_X12_overIn_2 : decode cX12_overIn 2 = .ok (.iconst 2, 1) := by decide +kernel
theorem d_X12_overIn_3 : decode cX12_overIn 3 = .ok (.iload_n 2, 1) := by decide +kernel
theorem d_X12_overIn_4 : decode cX12_overIn 4 = .ok (.iadd, 1) := by decide +kernel
theorem d_X12_overIn_5 : decode cX12_overIn 5 = .ok (.invokevirtual 116, 3) := by decide +kernel
theorem d_X12_overIn_8 : decode cX12_overIn 8 = .ok (.aload_n 0, 1) := by decide +kernel
theorem d_X12_overIn_9 : decode cX12_overIn 9 = .ok (.iload_n 1, 1) := by decide +kernel
theorem d_X12_overIn_10 : decode cX12_overIn 10 = .ok (.iconst 4, 1) := by decide +kernel
theorem d_X12_overIn_11 : decode cX12_overIn 11 = .ok (.iload_n 2, 1) := by decide +kernel
theorem d_X12_overIn_12 : decode cX12_overIn 12 = .ok (.iadd, 1) := by decide +kernel
theorem d_X12_overIn_13 : decode cX12_overIn 13 = .ok (.invokevirtual 116, 3) := by decide +kernel
theorem d_X12_overIn_16 : decode cX12_overIn 16 = .ok (.lsub, 1) := by decide +kernel
theorem d_X12_overIn_17 : decode cX12_overIn 17 = .ok (.lstore_n 3, 1) := by decide +kernel
theorem d_X12_overIn_18 : decode cX12_overIn 18 = .ok (.iconst 0, 1) := by decide +kernel
theorem d_X12_overIn_19 : decode cX12_overIn 19 = .ok (.istore 5, 2) := by decide +kernel
theorem d_X12_overIn_21 : decode cX12_overIn 21 = .ok (.iload 5, 2) := by decide +kernel
theorem d_X12_overIn_23 : decode cX12_overIn 23 = .ok (.aload_n 0, 1) := by decide +kernel
theorem d_X12_overIn_24 : decode cX12_overIn 24 = .ok (.invokevirtual 130, 3) := by decide +kernel
theorem d_X12_overIn_27 : decode cX12_overIn 27 = .ok (.if_icmp .ge 63, 3) := by decide +kernel
theorem d_X12_overIn_30 : decode cX12_overIn 30 = .ok (.aload_n 0, 1) := by decide +kernel
theorem d_X12_overIn_31 : decode cX12_overIn 31 = .ok (.iload 5, 2) := by decide +kernel
theorem d_X12_overIn_33 : decode cX12_overIn 33 = .ok (.iconst 1, 1) := by decide +kernel
theorem d_X12_overIn_34 : decode cX12_overIn 34 = .ok (.invokevirtual 238, 3) := by decide +kernel
theorem d_X12_overIn_37 : decode cX12_overIn 37 = .ok (.iload_n 1, 1) := by decide +kernel
theorem d_X12_overIn_38 : decode cX12_overIn 38 = .ok (.i2l, 1) := by decide +kernel
theorem d_X12_overIn_39 : decode cX12_overIn 39 = .ok (.lcmp, 1) := by decide +kernel
theorem d_X12_overIn_40 : decode cX12_overIn 40 = .ok (.ifCond .ne 44, 3) := by decide +kernel
theorem d_X12_overIn_43 : decode cX12_overIn 43 = .ok (.lload_n 3, 1) := by decide +kernel
theorem d_X12_overIn_44 : decode cX12_overIn 44 = .ok (.aload_n 0, 1) := by decide +kernel
theorem d_X12_overIn_45 : decode cX12_overIn 45 = .ok (.iload 5, 2) := by decide +kernel
theorem d_X12_overIn_47 : decode cX12_overIn 47 = .ok (.iload_n 2, 1) := by decide +kernel
theorem d_X12_overIn_48 : decode cX12_overIn 48 = .ok (.invokevirtual 247, 3) := by decide +kernel
theorem d_X12_overIn_51 : decode cX12_overIn 51 = .ok (.aload_n 0, 1) := by decide +kernel
theorem d_X12_overIn_52 : decode cX12_overIn 52 = .ok (.iload_n 1, 1) := by decide +kernel
theorem d_X12_overIn_53 : decode cX12_overIn 53 = .ok (.aload_n 0, 1) := by decide +kernel
theorem d_X12_overIn_54 : decode cX12_overIn 54 = .ok (.iload 5, 2) := by decide +kernel
theorem d_X12_overIn_56 : decode cX12_overIn 56 = .ok (.iconst 2, 1) := by decide +kernel
theorem d_X12_overIn_57 : decode cX12_overIn 57 = .ok (.invokevirtual 238, 3) := by decide +kernel
theorem d_X12_overIn_60 : decode cX12_overIn 60 = .ok (.l2i, 1) := by decide +kernel
theorem d_X12_overIn_61 : decode cX12_overIn 61 = .ok (.aload_n 0, 1) := by decide +kernel
theorem d_X12_overIn_62 : decode cX12_overIn 62 = .ok (.iload 5, 2) := by decide +kernel
theorem d_X12_overIn_64 : decode cX12_overIn 64 = .ok (.iconst 3, 1) := by decide +kernel
theorem d_X12_overIn_65 : decode cX12_overIn 65 = .ok (.invokevirtual 238, 3) := by decide +kernel
theorem d_X12_overIn_68 : decode cX12_overIn 68 = .ok (.l2i, 1) := by decide +kernel
theorem d_X12_overIn_69 : decode cX12_overIn 69 = .ok (.aload_n 0, 1) := by decide +kernel
theorem d_X12_overIn_70 : decode cX12_overIn 70 = .ok (.iload 5, 2) := by decide +kernel
theorem d_X12_overIn_72 : decode cX12_overIn 72 = .ok (.iconst 5, 1) := by decide +kernel
theorem d_X12_overIn_73 : decode cX12_overIn 73 = .ok (.invokevirtual 238, 3) := by decide +kernel
theorem d_X12_overIn_76 : decode cX12_overIn 76 = .ok (.iload_n 2, 1) := by decide +kernel
theorem d_X12_overIn_77 : decode cX12_overIn 77 = .ok (.iconst 0, 1) := by decide +kernel
theorem d_X12_overIn_78 : decode cX12_overIn 78 = .ok (.invokevirtual 271, 3) := by decide +kernel
theorem d_X12_overIn_81 : decode cX12_overIn 81 = .ok (.ladd, 1) := by decide +kernel
theorem d_X12_overIn_82 : decode cX12_overIn 82 = .ok (.lsub, 1) := by decide +kernel
theorem d_X12_overIn_83 : decode cX12_overIn 83 = .ok (.lstore_n 3, 1) := by decide +kernel
theorem d_X12_overIn_84 : decode cX12_overIn 84 = .ok (.iinc 5 1, 3) := by decide +kernel
theorem d_X12_overIn_87 : decode cX12_overIn 87 = .ok (.goto (-66), 3) := by decide +kernel
theorem d_X12_overIn_90 : decode cX12_overIn 90 = .ok (.lload_n 3, 1) := by decide +kernel
theorem d_X12_overIn_91 : decode cX12_overIn 91 = .ok (.lreturn, 1) := by decide +kernel
def f_X12_overIn_84 (k21 : Int32 → Int32 → Int64 → Int32 → Mem → Option (Int64 × Mem)) (v1 : Int32) (v2 : Int32) (v3 : Int64) (v5 : Int32) (S : Mem) : Option (Int64 × Mem) := (k21 v1 v2 v3 (v5 + 1) S)
set_option maxRecDepth 20000 in
theorem t_X12_overIn_84 {X : MC} {Γ : GG} (C : CX X Γ cX12_overIn 6 "TickPoolsModel" 3 83) (hr : X.2.2.2.2.2.2.2.2.1.sig.returnType = some .long) {k21 : Int32 → Int32 → Int64 → Int32 → Mem → Option (Int64 × Mem)} {q : Int64 × Mem} (hk21 : ∀ (v1 : Int32) (v2 : Int32) (v3 : Int64) (v5 : Int32) (S : Mem), k21 v1 v2 v3 v5 S = some q → ZZ X Γ 6 (QQ X Γ (some (aJ q.1)) q.2) S 21 [(0, aR 20), (1, aI v1), (2, aI v2), (3, aJ v3), (5, aI v5)] []) (v1 : Int32) (v2 : Int32) (v3 : Int64) (v5 : Int32) (S : Mem) (hf : f_X12_overIn_84 k21 v1 v2 v3 v5 S = some q) : ZZ X Γ 6 (QQ X Γ (some (aJ q.1)) q.2) S 84 [(0, aR 20), (1, aI v1), (2, aI v2), (3, aJ v3), (5, aI v5)] [] := by
  unfold f_X12_overIn_84 at hf
  refine z_iinc (j := 4) (v := (v5 + 1)) (lv' := [(5, aI (v5 + 1)), (0, aR 20), (1, aI v1), (2, aI v2), (3, aJ v3)]) C d_X12_overIn_84 rfl rfl (by decide) rfl ?_
  refine z_goto (tgt := 21) C d_X12_overIn_87 (by decide) ?_
  exact z_sub [1, 2, 3, 4, 0] rfl (hk21 _ _ _ _ _ hf)
def f_X12_overIn_21B (k21 : Int32 → Int32 → Int64 → Int32 → Mem → Option (Int64 × Mem)) (v1 : Int32) (v2 : Int32) (v3 : Int64) (v5 : Int32) (S : Mem) : Option (Int64 × Mem) := ((f_X12_stakes S).bind fun q24 => (if q24.1 ≤ v5 then (some (v3, q24.2)) else ((f_X12_ofStake v5 1 q24.2).bind fun q34 => (if q34.1 = (v1.toInt64) then ((f_X12_owedTo v5 v2 q34.2).bind fun q48 => ((f_X12_ofStake v5 2 q48.2).bind fun q57 => ((f_X12_ofStake v5 3 q57.2).bind fun q65 => ((f_X12_ofStake v5 5 q65.2).bind fun q73 => ((f_X12_liesIn v1 ((q57.1 : Int64).toInt32) ((q65.1 : Int64).toInt32) q73.1 v2 0 q73.2).bind fun q78 => (f_X12_overIn_84 k21 v1 v2 (v3 - (q48.1 + q78.1)) v5 q78.2)))))) else (f_X12_overIn_84 k21 v1 v2 v3 v5 q34.2)))))
set_option maxRecDepth 20000 in
theorem t_X12_overIn_21B {X : MC} {Γ : GG} (C : CX X Γ cX12_overIn 6 "TickPoolsModel" 3 83) (hr : X.2.2.2.2.2.2.2.2.1.sig.returnType = some .long) {k21 : Int32 → Int32 → Int64 → Int32 → Mem → Option (Int64 × Mem)} {q : Int64 × Mem} (hk21 : ∀ (v1 : Int32) (v2 : Int32) (v3 : Int64) (v5 : Int32) (S : Mem), k21 v1 v2 v3 v5 S = some q → ZZ X Γ 6 (QQ X Γ (some (aJ q.1)) q.2) S 21 [(0, aR 20), (1, aI v1), (2, aI v2), (3, aJ v3), (5, aI v5)] []) (v1 : Int32) (v2 : Int32) (v3 : Int64) (v5 : Int32) (S : Mem) (hf : f_X12_overIn_21B k21 v1 v2 v3 v5 S = some q) : ZZ X Γ 6 (QQ X Γ (some (aJ q.1)) q.2) S 21 [(0, aR 20), (1, aI v1), (2, aI v2), (3, aJ v3), (5, aI v5)] [] := by
  unfold f_X12_overIn_21B at hf
  refine z_iload (j := 4) C d_X12_overIn_21 rfl ?_
  refine z_aload_n (j := 0) C d_X12_overIn_23 rfl ?_
  obtain ⟨q24, hF, hf⟩ := bd hf
  refine z_callV1 (rest := [aI v5]) C [] rfl (by decide) rfl rfl k_X12_stakes tw_1486 ⟨by decide, by decide⟩ (Nat.le_of_ble_eq_true rfl) d_X12_overIn_24 (c_X12_stakes C.inj hF) rfl ?_
  refine z_icmp_ge (tgt := 90) C d_X12_overIn_27 (by decide) hf (fun c27 hf => ?_) (fun c27 hf => ?_)
  · refine z_lload_n (j := 3) C d_X12_overIn_90 rfl ?_
    exact r_l C hr d_X12_overIn_91 hf
  · refine z_aload_n (j := 0) C d_X12_overIn_30 rfl ?_
    refine z_iload (j := 4) C d_X12_overIn_31 rfl ?_
    refine z_iconst (v := 1) C d_X12_overIn_33 (by decide) ?_
    obtain ⟨q34, hF, hf⟩ := bd hf
    refine z_callV1 (rest := []) C [aI v5, aI 1] rfl (by decide) rfl rfl k_X12_ofStake tw_1490 ⟨by decide, by decide⟩ (Nat.le_of_ble_eq_true rfl) d_X12_overIn_34 (c_X12_ofStake C.inj hF) rfl ?_
    refine z_iload_n (j := 1) C d_X12_overIn_37 rfl ?_
    refine z_i2l C d_X12_overIn_38 ?_
    refine z_lne (tgt := 84) C d_X12_overIn_39 d_X12_overIn_40 (by decide) hf (fun c39 hf => ?_) (fun c39 hf => ?_)
    · exact z_sub [0, 1, 2, 3, 4] rfl (t_X12_overIn_84 C hr hk21 _ _ _ _ _ hf)
    · refine z_lload_n (j := 3) C d_X12_overIn_43 rfl ?_
      refine z_aload_n (j := 0) C d_X12_overIn_44 rfl ?_
      refine z_iload (j := 4) C d_X12_overIn_45 rfl ?_
      refine z_iload_n (j := 2) C d_X12_overIn_47 rfl ?_
      obtain ⟨q48, hF, hf⟩ := bd hf
      refine z_callV1 (rest := [aJ v3]) C [aI v5, aI v2] rfl (by decide) rfl rfl k_X12_owedTo tw_1533 ⟨by decide, by decide⟩ (Nat.le_of_ble_eq_true rfl) d_X12_overIn_48 (c_X12_owedTo C.inj hF) rfl ?_
      refine z_aload_n (j := 0) C d_X12_overIn_51 rfl ?_
      refine z_iload_n (j := 1) C d_X12_overIn_52 rfl ?_
      refine z_aload_n (j := 0) C d_X12_overIn_53 rfl ?_
      refine z_iload (j := 4) C d_X12_overIn_54 rfl ?_
      refine z_iconst (v := 2) C d_X12_overIn_56 (by decide) ?_
      obtain ⟨q57, hF, hf⟩ := bd hf
      refine z_callV1 (rest := [aI v1, aR 20, aJ q48.1, aJ v3]) C [aI v5, aI 2] rfl (by decide) rfl rfl k_X12_ofStake tw_1490 ⟨by decide, by decide⟩ (Nat.le_of_ble_eq_true rfl) d_X12_overIn_57 (c_X12_ofStake C.inj hF) rfl ?_
      refine z_l2i C d_X12_overIn_60 ?_
      refine z_aload_n (j := 0) C d_X12_overIn_61 rfl ?_
      refine z_iload (j := 4) C d_X12_overIn_62 rfl ?_
      refine z_iconst (v := 3) C d_X12_overIn_64 (by decide) ?_
      obtain ⟨q65, hF, hf⟩ := bd hf
      refine z_callV1 (rest := [aI ((q57.1 : Int64).toInt32), aI v1, aR 20, aJ q48.1, aJ v3]) C [aI v5, aI 3] rfl (by decide) rfl rfl k_X12_ofStake tw_1490 ⟨by decide, by decide⟩ (Nat.le_of_ble_eq_true rfl) d_X12_overIn_65 (c_X12_ofStake C.inj hF) rfl ?_
      refine z_l2i C d_X12_overIn_68 ?_
      refine z_aload_n (j := 0) C d_X12_overIn_69 rfl ?_
      refine z_iload (j := 4) C d_X12_overIn_70 rfl ?_
      refine z_iconst (v := 5) C d_X12_overIn_72 (by decide) ?_
      obtain ⟨q73, hF, hf⟩ := bd hf
      refine z_callV1 (rest := [aI ((q65.1 : Int64).toInt32), aI ((q57.1 : Int64).toInt32), aI v1, aR 20, aJ q48.1, aJ v3]) C [aI v5, aI 5] rfl (by decide) rfl rfl k_X12_ofStake tw_1490 ⟨by decide, by decide⟩ (Nat.le_of_ble_eq_true rfl) d_X12_overIn_73 (c_X12_ofStake C.inj hF) rfl ?_
      refine z_iload_n (j := 2) C d_X12_overIn_76 rfl ?_
      refine z_iconst (v := 0) C d_X12_overIn_77 (by decide) ?_
      obtain ⟨q78, hF, hf⟩ := bd hf
      refine z_callV1 (rest := [aJ q48.1, aJ v3]) C [aI v1, aI ((q57.1 : Int64).toInt32), aI ((q65.1 : Int64).toInt32), aJ q73.1, aI v2, aI 0] rfl (by decide) rfl rfl k_X12_liesIn tw_1495 ⟨by decide, by decide⟩ (Nat.le_of_ble_eq_true rfl) d_X12_overIn_78 (c_X12_liesIn C.inj hF) rfl ?_
      refine z_ladd C d_X12_overIn_81 ?_
      refine z_lsub C d_X12_overIn_82 ?_
      refine z_lstore_n (lv' := [(3, aJ (v3 - (q48.1 + q78.1))), (0, aR 20), (1, aI v1), (2, aI v2), (5, aI v5)]) C d_X12_overIn_83 (by decide) rfl ?_
      exact z_sub [1, 2, 3, 0, 4] rfl (t_X12_overIn_84 C hr hk21 _ _ _ _ _ hf)
def f_X12_overIn_21 : Nat → Int32 → Int32 → Int64 → Int32 → Mem → Option (Int64 × Mem)
  | 0 => fun _ _ _ _ _ => none
  | n + 1 => f_X12_overIn_21B (f_X12_overIn_21 n)
theorem t_X12_overIn_21 {X : MC} {Γ : GG} (C : CX X Γ cX12_overIn 6 "TickPoolsModel" 3 83) (hr : X.2.2.2.2.2.2.2.2.1.sig.returnType = some .long) {q : Int64 × Mem} : ∀ (n : Nat) (v1 : Int32) (v2 : Int32) (v3 : Int64) (v5 : Int32) (S : Mem) (hf : f_X12_overIn_21 n v1 v2 v3 v5 S = some q), ZZ X Γ 6 (QQ X Γ (some (aJ q.1)) q.2) S 21 [(0, aR 20), (1, aI v1), (2, aI v2), (3, aJ v3), (5, aI v5)] []
  | 0, _, _, _, _, _, hf => nomatch (show (none : Option (Int64 × Mem)) = some q from hf)
  | n + 1, v1, v2, v3, v5, S, hf => t_X12_overIn_21B C hr (t_X12_overIn_21 C hr n) v1 v2 v3 v5 S hf
def f_X12_overIn_18 (v1 : Int32) (v2 : Int32) (v3 : Int64) (S : Mem) : Option (Int64 × Mem) := (f_X12_overIn_21  100000 v1 v2 v3 0 S)
set_option maxRecDepth 20000 in
theorem t_X12_overIn_18 {X : MC} {Γ : GG} (C : CX X Γ cX12_overIn 6 "TickPoolsModel" 3 83) (hr : X.2.2.2.2.2.2.2.2.1.sig.returnType = some .long) {q : Int64 × Mem} (v1 : Int32) (v2 : Int32) (v3 : Int64) (S : Mem) (hf : f_X12_overIn_18 v1 v2 v3 S = some q) : ZZ X Γ 6 (QQ X Γ (some (aJ q.1)) q.2) S 18 [(0, aR 20), (1, aI v1), (2, aI v2), (3, aJ v3)] [] := by
  unfold f_X12_overIn_18 at hf
  refine z_iconst (v := 0) C d_X12_overIn_18 (by decide) ?_
  refine z_istore (lv' := [(5, aI 0), (0, aR 20), (1, aI v1), (2, aI v2), (3, aJ v3)]) C d_X12_overIn_19 (by decide) rfl ?_
  exact z_sub [1, 2, 3, 4, 0] rfl (t_X12_overIn_21 C hr  100000 _ _ _ _ _ hf)
/-- TickPoolsModel.overIn(II)J -/
def f_X12_overIn (p1 : Int32) (p2 : Int32) (S : Mem) : Option (Int64 × Mem) := ((f_X12_ofPool p1 (2 + p2) S).bind fun q5 => ((f_X12_ofPool p1 (4 + p2) q5.2).bind fun q13 => (f_X12_overIn_18  p1 p2 (q5.1 - q13.1) q13.2)))
set_option maxRecDepth 20000 in
theorem c_X12_overIn {l : Launch} {Γ : GG} (hI : Inj Γ) {p1 : Int32} {p2 : Int32} {S : Mem} {q : Int64 × Mem} (hf : f_X12_overIn p1 p2 S = some q) : MM l Γ yX12_overIn cX12_overIn 6 (some .long) 3 83 [aR 20, aI p1, aI p2] S (some (aJ q.1)) q.2 := by
  refine met_of hI "TickPoolsModel" rfl (by decide +kernel) (Nat.le_of_ble_eq_true rfl) (fun X hX C hr => ?_)
  unfold f_X12_overIn at hf
  show ZZ X Γ 6 _ S 0 [(0, aR 20), (1, aI p1), (2, aI p2)] []
  refine z_aload_n (j := 0) C d_X12_overIn_0 rfl ?_
  refine z_iload_n (j := 1) C d_X12_overIn_1 rfl ?_
  refine z_iconst (v := 2) C d_X12_overIn_2 (by decide) ?_
  refine z_iload_n (j := 2) C d_X12_overIn_3 rfl ?_
  refine z_iadd C d_X12_overIn_4 ?_
  obtain ⟨q5, hF, hf⟩ := bd hf
  refine z_callV1 (rest := []) C [aI p1, aI (2 + p2)] rfl (by decide) rfl rfl k_X12_ofPool tw_1503 ⟨by decide, by decide⟩ (Nat.le_of_ble_eq_true rfl) d_X12_overIn_5 (c_X12_ofPool C.inj hF) rfl ?_
  refine z_aload_n (j := 0) C d_X12_overIn_8 rfl ?_
  refine z_iload_n (j := 1) C d_X12_overIn_9 rfl ?_
  refine z_iconst (v := 4) C d_X12_overIn_10 (by decide) ?_
  refine z_iload_n (j := 2) C d_X12_overIn_11 rfl ?_
  refine z_iadd C d_X12_overIn_12 ?_
  obtain ⟨q13, hF, hf⟩ := bd hf
  refine z_callV1 (rest := [aJ q5.1]) C [aI p1, aI (4 + p2)] rfl (by decide) rfl rfl k_X12_ofPool tw_1503 ⟨by decide, by decide⟩ (Nat.le_of_ble_eq_true rfl) d_X12_overIn_13 (c_X12_ofPool C.inj hF) rfl ?_
  refine z_lsub C d_X12_overIn_16 ?_
  refine z_lstore_n (lv' := [(3, aJ (q5.1 - q13.1)), (0, aR 20), (1, aI p1), (2, aI p2)]) C d_X12_overIn_17 (by decide) rfl ?_
  exact z_sub [1, 2, 3, 0] rfl (t_X12_overIn_18 C hr  _ _ _ _ hf)
