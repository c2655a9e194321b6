theorem d_X9_accept_0 : decode cX9_accept 0 = .ok (.aload_n 0, 1) := by decide +kernel
theorem d_X9_accept_1 : decode cX9_accept 1 = .ok (.invokevirtual 29, 3) := by decide +kernel
theorem d_X9_accept_4 : decode cX9_accept 4 = .ok (.iload_n 1, 1) := by decide +kernel
theorem d_X9_accept_5 : decode cX9_accept 5 = .ok (.if_icmp .eq 5, 3) := by decide +kernel
theorem d_X9_accept_8 : decode cX9_accept 8 = .ok (.iconst 0, 1) := by decide +kernel
theorem d_X9_accept_9 : decode cX9_accept 9 = .ok (.ireturn, 1) := by decide +kernel
theorem d_X9_accept_10 : decode cX9_accept 10 = .ok (.aload_n 0, 1) := by decide +kernel
theorem d_X9_accept_11 : decode cX9_accept 11 = .ok (.dup, 1) := by decide +kernel
theorem d_X9_accept_12 : decode cX9_accept 12 = .ok (.getfield 19, 3) := by decide +kernel
theorem d_X9_accept_15 : decode cX9_accept 15 = .ok (.iconst 1, 1) := by decide +kernel
theorem d_X9_accept_16 : decode cX9_accept 16 = .ok (.iadd, 1) := by decide +kernel
theorem d_X9_accept_17 : decode cX9_accept 17 = .ok (.putfield 19, 3) := by decide +kernel
theorem d_X9_accept_20 : decode cX9_accept 20 = .ok (.iconst 1, 1) := by decide +kernel
theorem d_X9_accept_21 : decode cX9_accept 21 = .ok (.ireturn, 1) := by decide +kernel
/-- TickPools$Tape.accept(I)Z -/
def f_X9_accept (p1 : Int32) (S : Mem) : Option (Int32 × Mem) := ((f_X9_peek S).bind fun q1 => (if q1.1 = p1 then (some (1, (sI q1.2 2 5 ((gI q1.2 2 5) + 1)))) else (some (0, q1.2))))
set_option maxRecDepth 20000 in
theorem c_X9_accept {l : Launch} {Γ : GG} (hI : Inj Γ) {p1 : Int32} {S : Mem} {q : Int32 × Mem} (hf : f_X9_accept p1 S = some q) : MM l Γ yX9_accept cX9_accept 2 (some .boolean) 2 41 [aR 2, aI p1] S (some (aI q.1)) q.2 := by
  refine met_of hI "TickPools$Tape" rfl (by decide +kernel) (Nat.le_of_ble_eq_true rfl) (fun X hX C hr => ?_)
  unfold f_X9_accept at hf
  show ZZ X Γ 2 _ S 0 [(0, aR 2), (1, aI p1)] []
  refine z_aload_n (j := 0) C d_X9_accept_0 rfl ?_
  obtain ⟨q1, hF, hf⟩ := bd hf
  refine z_callV1 (rest := []) C [] rfl (by decide) rfl rfl k_X9_peek tw_525 ⟨by decide, by decide⟩ (Nat.le_of_ble_eq_true rfl) d_X9_accept_1 (c_X9_peek C.inj hF) rfl ?_
  refine z_iload_n (j := 1) C d_X9_accept_4 rfl ?_
  refine z_icmp_eq (tgt := 10) C d_X9_accept_5 (by decide) hf (fun c5 hf => ?_) (fun c5 hf => ?_)
  · refine z_aload_n (j := 0) C d_X9_accept_10 rfl ?_
    refine z_dup C d_X9_accept_11 rfl ?_
    refine zg_X9_at C rfl tw_43 d_X9_accept_12 ?_
    refine z_iconst (v := 1) C d_X9_accept_15 (by decide) ?_
    refine z_iadd C d_X9_accept_16 ?_
    refine zp_X9_at C rfl tw_43 d_X9_accept_17 ?_
    refine z_iconst (v := 1) C d_X9_accept_20 (by decide) ?_
    exact r_i C hr (by decide) d_X9_accept_21 hf
  · refine z_iconst (v := 0) C d_X9_accept_8 (by decide) ?_
    exact r_i C hr (by decide) d_X9_accept_9 hf
theorem d_X9_blameHere_0 : decode cX9_blameHere 0 = .ok (.aload_n 0, 1) := by decide +kernel
theorem d_X9_blameHere_1 : decode cX9_blameHere 1 = .ok (.invokevirtual 29, 3) := by decide +kernel
theorem d_X9_blameHere_4 : decode cX9_blameHere 4 = .ok (.pop, 1) := by decide +kernel
theorem d_X9_blameHere_5 : decode cX9_blameHere 5 = .ok (.aload_n 0, 1) := by decide +kernel
theorem d_X9_blameHere_6 : decode cX9_blameHere 6 = .ok (.aload_n 0, 1) := by decide +kernel
theorem d_X9_blameHere_7 : decode cX9_blameHere 7 = .ok (.getfield 19, 3) := by decide +kernel
theorem d_X9_blameHere_10 : decode cX9_blameHere 10 = .ok (.iload_n 1, 1) := by decide +kernel
theorem d_X9_blameHere_11 : decode cX9_blameHere 11 = .ok (.invokevirtual 33, 3) := by decide +kernel
theorem d_X9_blameHere_14 : decode cX9_blameHere 14 = .ok (.ireturn, 1) := by decide +kernel
/-- TickPools$Tape.blameHere(I)Z -/
def f_X9_blameHere (p1 : Int32) (S : Mem) : Option (Int32 × Mem) := ((f_X9_peek S).bind fun q1 => ((f_X9_blame (gI q1.2 2 5) p1 q1.2).bind fun q11 => (if isB q11.1 = true then (some (q11.1, q11.2)) else none)))
set_option maxRecDepth 20000 in
theorem c_X9_blameHere {l : Launch} {Γ : GG} (hI : Inj Γ) {p1 : Int32} {S : Mem} {q : Int32 × Mem} (hf : f_X9_blameHere p1 S = some q) : MM l Γ yX9_blameHere cX9_blameHere 2 (some .boolean) 2 41 [aR 2, aI p1] S (some (aI q.1)) q.2 := by
  refine met_of hI "TickPools$Tape" rfl (by decide +kernel) (Nat.le_of_ble_eq_true rfl) (fun X hX C hr => ?_)
  unfold f_X9_blameHere at hf
  show ZZ X Γ 2 _ S 0 [(0, aR 2), (1, aI p1)] []
  refine z_aload_n (j := 0) C d_X9_blameHere_0 rfl ?_
  obtain ⟨q1, hF, hf⟩ := bd hf
  refine z_callV1 (rest := []) C [] rfl (by decide) rfl rfl k_X9_peek tw_525 ⟨by decide, by decide⟩ (Nat.le_of_ble_eq_true rfl) d_X9_blameHere_1 (c_X9_peek C.inj hF) rfl ?_
  refine z_pop C d_X9_blameHere_4 rfl ?_
  refine z_aload_n (j := 0) C d_X9_blameHere_5 rfl ?_
  refine z_aload_n (j := 0) C d_X9_blameHere_6 rfl ?_
  refine zg_X9_at C rfl tw_43 d_X9_blameHere_7 ?_
  refine z_iload_n (j := 1) C d_X9_blameHere_10 rfl ?_
  obtain ⟨q11, hF, hf⟩ := bd hf
  refine z_callV1 (rest := []) C [aI (gI q1.2 2 5), aI p1] rfl (by decide) rfl rfl k_X9_blame tw_533 ⟨by decide, by decide⟩ (Nat.le_of_ble_eq_true rfl) d_X9_blameHere_11 (c_X9_blame C.inj hF) rfl ?_
  obtain ⟨hb14_2, hf⟩ := gd hf
  exact r_i C hr (isB_nar hb14_2).1 d_X9_blameHere_14 hf
theorem d_X3_read_0 : decode cX3_read 0 = .ok (.aload_n 0, 1) := by decide +kernel
theorem d_X3_read_1 : decode cX3_read 1 = .ok (.getfield 9, 3) := by decide +kernel
theorem d_X3_read_4 : decode cX3_read 4 = .ok (.invokevirtual 19, 3) := by decide +kernel
theorem d_X3_read_7 : decode cX3_read 7 = .ok (.aload_n 0, 1) := by decide +kernel
theorem d_X3_read_8 : decode cX3_read 8 = .ok (.getfield 15, 3) := by decide +kernel
theorem d_X3_read_11 : decode cX3_read 11 = .ok (.invokevirtual 24, 3) := by decide +kernel
theorem d_X3_read_14 : decode cX3_read 14 = .ok (.iconst 0, 1) := by decide +kernel
theorem d_X3_read_15 : decode cX3_read 15 = .ok (.istore_n 1, 1) := by decide +kernel
theorem d_X3_read_16 : decode cX3_read 16 = .ok (.iload_n 1, 1) := by decide +kernel
theorem d_X3_read_17 : decode cX3_read 17 = .ok (.bipush 30, 2) := by decide +kernel
theorem d_X3_read_19 : decode cX3_read 19 = .ok (.if_icmp .gt 53, 3) := by decide +kernel
theorem d_X3_read_22 : decode cX3_read 22 = .ok (.aload_n 0, 1) := by decide +kernel
theorem d_X3_read_23 : decode cX3_read 23 = .ok (.iload_n 1, 1) := by decide +kernel
theorem d_X3_read_24 : decode cX3_read 24 = .ok (.invokevirtual 29, 3) := by decide +kernel
theorem d_X3_read_27 : decode cX3_read 27 = .ok (.ifCond .ne 5, 3) := by decide +kernel
theorem d_X3_read_30 : decode cX3_read 30 = .ok (.iconst 0, 1) := by decide +kernel
theorem d_X3_read_31 : decode cX3_read 31 = .ok (.ireturn, 1) := by decide +kernel
theorem d_X3_read_32 : decode cX3_read 32 = .ok (.aload_n 0, 1) := by decide +kernel
theorem d_X3_read_33 : decode cX3_read 33 = .ok (.getfield 9, 3) := by decide +kernel
theorem d_X3_read_36 : decode cX3_read 36 = .ok (.invokevirtual 33, 3) := by decide +kernel
theorem d_X3_read_39 : decode cX3_read 39 = .ok (.iconst (-1), 1) := by decide +kernel
theorem d_X3_read_40 : decode cX3_read 40 = .ok (.if_icmp .ne 5, 3) := by decide +kernel
theorem d_X3_read_43 : decode cX3_read 43 = .ok (.iconst 1, 1) := by decide +kernel
theorem d_X3_read_44 : decode cX3_read 44 = .ok (.ireturn, 1) := by decide +kernel
theorem d_X3_read_45 : decode cX3_read 45 = .ok (.aload_n 0, 1) := by decide +kernel
theorem d_X3_read_46 : decode cX3_read 46 = .ok (.getfield 9, 3) := by decide +kernel
theorem d_X3_read_49 : decode cX3_read 49 = .ok (.bipush 59, 2) := by decide +kernel
theorem d_X3_read_51 : decode cX3_read 51 = .ok (.invokevirtual 37, 3) := by decide +kernel
theorem d_X3_read_54 : decode cX3_read 54 = .ok (.ifCond .ne 12, 3) := by decide +kernel
theorem d_X3_read_57 : decode cX3_read 57 = .ok (.aload_n 0, 1) := by decide +kernel
theorem d_X3_read_58 : decode cX3_read 58 = .ok (.getfield 9, 3) := by decide +kernel
theorem d_X3_read_61 : decode cX3_read 61 = .ok (.iconst 0, 1) := by decide +kernel
theorem d_X3_read_62 : decode cX3_read 62 = .ok (.invokevirtual 40, 3) := by decide +kernel
theorem d_X3_read_65 : decode cX3_read 65 = .ok (.ireturn, 1) := by decide +kernel
theorem d_X3_read_66 : decode cX3_read 66 = .ok (.iinc 1 1, 3) := by decide +kernel
theorem d_X3_read_69 : decode cX3_read 69 = .ok (.goto (-53), 3) := by decide +kernel
theorem d_X3_read_72 : decode cX3_read 72 = .ok (.iconst 0, 1) := by decide +kernel
theorem d_X3_read_73 : decode cX3_read 73 = .ok (.ireturn, 1) := by decide +kernel
def f_X3_read_16B (k16 : Int32 → Mem → Option (Int32 × Mem)) (v1 : Int32) (S : Mem) : Option (Int32 × Mem) := (if 30 < v1 then (some (0, S)) else ((f_X3_readClause v1 S).bind fun q24 => (if q24.1 = 0 then (some (0, q24.2)) else ((f_X9_peek q24.2).bind fun q36 => (if q36.1 = (-1) then (some (1, q36.2)) else ((f_X9_accept 59 q36.2).bind fun q51 => (if q51.1 = 0 then ((f_X9_blameHere 0 q51.2).bind fun q62 => (if isB q62.1 = true then (some (q62.1, q62.2)) else none)) else (k16 (v1 + 1) q51.2))))))))
set_option maxRecDepth 20000 in
theorem t_X3_read_16B {X : MC} {Γ : GG} (C : CX X Γ cX3_read 2 "TickPools$MarketReader" 6 134) (hr : X.2.2.2.2.2.2.2.2.1.sig.returnType = some .boolean) {k16 : Int32 → Mem → Option (Int32 × Mem)} {q : Int32 × Mem} (hk16 : ∀ (v1 : Int32) (S : Mem), k16 v1 S = some q → ZZ X Γ 2 (QQ X Γ (some (aI q.1)) q.2) S 16 [(0, aR 5), (1, aI v1)] []) (v1 : Int32) (S : Mem) (hf : f_X3_read_16B k16 v1 S = some q) : ZZ X Γ 2 (QQ X Γ (some (aI q.1)) q.2) S 16 [(0, aR 5), (1, aI v1)] [] := by
  unfold f_X3_read_16B at hf
  refine z_iload_n (j := 1) C d_X3_read_16 rfl ?_
  refine z_bipush (v := 30) C d_X3_read_17 (by decide) ?_
  refine z_icmp_gt (tgt := 72) C d_X3_read_19 (by decide) hf (fun c19 hf => ?_) (fun c19 hf => ?_)
  · refine z_iconst (v := 0) C d_X3_read_72 (by decide) ?_
    exact r_i C hr (by decide) d_X3_read_73 hf
  · refine z_aload_n (j := 0) C d_X3_read_22 rfl ?_
    refine z_iload_n (j := 1) C d_X3_read_23 rfl ?_
    obtain ⟨q24, hF, hf⟩ := bd hf
    refine z_callV1 (rest := []) C [aI v1] rfl (by decide) rfl rfl k_X3_readClause tw_517 ⟨by decide, by decide⟩ (Nat.le_of_ble_eq_true rfl) d_X3_read_24 (c_X3_readClause C.inj hF) rfl ?_
    refine z_if_ne (tgt := 32) C d_X3_read_27 (by decide) hf (fun c27 hf => ?_) (fun c27 hf => ?_)
    · refine z_aload_n (j := 0) C d_X3_read_32 rfl ?_
      refine zg_X3_tape C rfl tw_295 d_X3_read_33 ?_
      obtain ⟨q36, hF, hf⟩ := bd hf
      refine z_callV1 (rest := []) C [] rfl (by decide) rfl rfl k_X9_peek tw_650 ⟨by decide, by decide⟩ (Nat.le_of_ble_eq_true rfl) d_X3_read_36 (c_X9_peek C.inj hF) rfl ?_
      refine z_iconst (v := (-1)) C d_X3_read_39 (by decide) ?_
      refine z_icmp_ne (tgt := 45) C d_X3_read_40 (by decide) hf (fun c40 hf => ?_) (fun c40 hf => ?_)
      · refine z_aload_n (j := 0) C d_X3_read_45 rfl ?_
        refine zg_X3_tape C rfl tw_295 d_X3_read_46 ?_
        refine z_bipush (v := 59) C d_X3_read_49 (by decide) ?_
        obtain ⟨q51, hF, hf⟩ := bd hf
        refine z_callV1 (rest := []) C [aI 59] rfl (by decide) rfl rfl k_X9_accept tw_651 ⟨by decide, by decide⟩ (Nat.le_of_ble_eq_true rfl) d_X3_read_51 (c_X9_accept C.inj hF) rfl ?_
        refine z_if_ne (tgt := 66) C d_X3_read_54 (by decide) hf (fun c54 hf => ?_) (fun c54 hf => ?_)
        · refine z_iinc (j := 1) (v := (v1 + 1)) (lv' := [(1, aI (v1 + 1)), (0, aR 5)]) C d_X3_read_66 rfl rfl (by decide) rfl ?_
          refine z_goto (tgt := 16) C d_X3_read_69 (by decide) ?_
          exact z_sub [1, 0] rfl (hk16 _ _ hf)
        · refine z_aload_n (j := 0) C d_X3_read_57 rfl ?_
          refine zg_X3_tape C rfl tw_295 d_X3_read_58 ?_
          refine z_iconst (v := 0) C d_X3_read_61 (by decide) ?_
          obtain ⟨q62, hF, hf⟩ := bd hf
          refine z_callV1 (rest := []) C [aI 0] rfl (by decide) rfl rfl k_X9_blameHere tw_655 ⟨by decide, by decide⟩ (Nat.le_of_ble_eq_true rfl) d_X3_read_62 (c_X9_blameHere C.inj hF) rfl ?_
          obtain ⟨hb65_1, hf⟩ := gd hf
          exact r_i C hr (isB_nar hb65_1).1 d_X3_read_65 hf
      · refine z_iconst (v := 1) C d_X3_read_43 (by decide) ?_
        exact r_i C hr (by decide) d_X3_read_44 hf
    · refine z_iconst (v := 0) C d_X3_read_30 (by decide) ?_
      exact r_i C hr (by decide) d_X3_read_31 hf
def f_X3_read_16 : Nat → Int32 → Mem → Option (Int32 × Mem)
  | 0 => fun _ _ => none
  | n + 1 => f_X3_read_16B (f_X3_read_16 n)
theorem t_X3_read_16 {X : MC} {Γ : GG} (C : CX X Γ cX3_read 2 "TickPools$MarketReader" 6 134) (hr : X.2.2.2.2.2.2.2.2.1.sig.returnType = some .boolean) {q : Int32 × Mem} : ∀ (n : Nat) (v1 : Int32) (S : Mem) (hf : f_X3_read_16 n v1 S = some q), ZZ X Γ 2 (QQ X Γ (some (aI q.1)) q.2) S 16 [(0, aR 5), (1, aI v1)] []
  | 0, _, _, hf => nomatch (show (none : Option (Int32 × Mem)) = some q from hf)
  | n + 1, v1, S, hf => t_X3_read_16B C hr (t_X3_read_16 C hr n) v1 S hf
/-- TickPools$MarketReader.read()Z -/
def f_X3_read (S : Mem) : Option (Int32 × Mem) := ((f_X9_rewind S).bind fun q4 => ((f_X2_clear 143 q4.2).bind fun q11 => (f_X3_read_16  100000 0 q11.2)))
set_option maxRecDepth 20000 in
theorem c_X3_read {l : Launch} {Γ : GG} (hI : Inj Γ) {S : Mem} {q : Int32 × Mem} (hf : f_X3_read S = some q) : MM l Γ yX3_read cX3_read 2 (some .boolean) 6 134 [aR 5] S (some (aI q.1)) q.2 := by
  refine met_of hI "TickPools$MarketReader" rfl (by decide +kernel) (Nat.le_of_ble_eq_true rfl) (fun X hX C hr => ?_)
  unfold f_X3_read at hf
  show ZZ X Γ 2 _ S 0 [(0, aR 5)] []
  refine z_aload_n (j := 0) C d_X3_read_0 rfl ?_
  refine zg_X3_tape C rfl tw_295 d_X3_read_1 ?_
  obtain ⟨q4, hF, hf⟩ := bd hf
  refine z_callV0 (rest := []) C [] rfl (by decide) rfl rfl k_X9_rewind tw_509 ⟨by decide, by decide⟩ (Nat.le_of_ble_eq_true rfl) d_X3_read_4 (c_X9_rewind C.inj hF) rfl ?_
  refine z_aload_n (j := 0) C d_X3_read_7 rfl ?_
  refine zg_X3_market C rfl tw_296 d_X3_read_8 ?_
  obtain ⟨q11, hF, hf⟩ := bd hf
  refine z_callV0 (rest := []) C [] rfl (by decide) rfl rfl k_X2_clear tw_513 ⟨by decide, by decide⟩ (Nat.le_of_ble_eq_true rfl) d_X3_read_11 (c_X2_clear C.inj hF) rfl ?_
  refine z_iconst (v := 0) C d_X3_read_14 (by decide) ?_
  refine z_istore_n (lv' := [(1, aI 0), (0, aR 5)]) C d_X3_read_15 (by decide) rfl ?_
  exact z_sub [1, 0] rfl (t_X3_read_16 C hr  100000 _ _ hf)
theorem d_X4_firstMark_0 : decode cX4_firstMark 0 = .ok (.aload_n 0, 1) := by decide +kernel
theorem d_X4_firstMark_1 : decode cX4_firstMark 1 = .ok (.getfield 18, 3) := by decide +kernel
theorem d_X4_firstMark_4 : decode cX4_firstMark 4 = .ok (.iconst 0, 1) := by decide +kernel
theorem d_X4_firstMark_5 : decode cX4_firstMark 5 = .ok (.iaload, 1) := by decide +kernel
theorem d_X4_firstMark_6 : decode cX4_firstMark 6 = .ok (.ireturn, 1) := by decide +kernel
/-- TickPools$Pool.firstMark()I -/
def f_X4_firstMark (h0 : Nat) (S : Mem) : Option (Int32 × Mem) := (if kd h0 = (3, 12) then (some ((gI S (h0 + 3) ((0 : Int32).toNatClampNeg)), S)) else none)
set_option maxRecDepth 20000 in
theorem c_X4_firstMark {l : Launch} {Γ : GG} (hI : Inj Γ) {h0 : Nat} {S : Mem} {q : Int32 × Mem} (hf : f_X4_firstMark h0 S = some q) : MM l Γ yX4_firstMark cX4_firstMark 1 (some .int) 0 0 [aR h0] S (some (aI q.1)) q.2 := by
  refine met_of hI "TickPools$Pool" rfl (by decide +kernel) (Nat.le_of_ble_eq_true rfl) (fun X hX C hr => ?_)
  unfold f_X4_firstMark at hf
  show ZZ X Γ 1 _ S 0 [(0, aR h0)] []
  refine z_aload_n (j := 0) C d_X4_firstMark_0 rfl ?_
  obtain ⟨hg1_0, hf⟩ := gd hf
  refine zg_X4_markTime C hg1_0 tw_113 d_X4_firstMark_1 ?_
  refine z_iconst (v := 0) C d_X4_firstMark_4 (by decide) ?_
  refine z_iald C (kdP3 hg1_0) (by decide) d_X4_firstMark_5 ?_
  exact r_i C hr rfl d_X4_firstMark_6 hf
theorem d_X5_start_0 : decode cX5_start 0 = .ok (.aload_n 0, 1) := by decide +kernel
theorem d_X5_start_1 : decode cX5_start 1 = .ok (.iload_n 1, 1) := by decide +kernel
theorem d_X5_start_2 : decode cX5_start 2 = .ok (.putfield 39, 3) := by decide +kernel
theorem d_X5_start_5 : decode cX5_start 5 = .ok (.aload_n 0, 1) := by decide +kernel
theorem d_X5_start_6 : decode cX5_start 6 = .ok (.iconst 0, 1) := by decide +kernel
theorem d_X5_start_7 : decode cX5_start 7 = .ok (.putfield 43, 3) := by decide +kernel
theorem d_X5_start_10 : decode cX5_start 10 = .ok (.aload_n 0, 1) := by decide +kernel
theorem d_X5_start_11 : decode cX5_start 11 = .ok (.iconst 0, 1) := by decide +kernel
theorem d_X5_start_12 : decode cX5_start 12 = .ok (.putfield 46, 3) := by decide +kernel
theorem d_X5_start_15 : decode cX5_start 15 = .ok (.aload_n 0, 1) := by decide +kernel
theorem d_X5_start_16 : decode cX5_start 16 = .ok (.iconst 0, 1) := by decide +kernel
theorem d_X5_start_17 : decode cX5_start 17 = .ok (.putfield 49, 3) := by decide +kernel
theorem d_X5_start_20 : decode cX5_start 20 = .ok (.aload_n 0, 1) := by decide +kernel
theorem d_X5_start_21 : decode cX5_start 21 = .ok (.iconst 0, 1) := by decide +kernel
theorem d_X5_start_22 : decode cX5_start 22 = .ok (.putfield 52, 3) := by decide +kernel
theorem d_X5_start_25 : decode cX5_start 25 = .ok (.aload_n 0, 1) := by decide +kernel
theorem d_X5_start_26 : decode cX5_start 26 = .ok (.lconst 0, 1) := by decide +kernel
theorem d_X5_start_27 : decode cX5_start 27 = .ok (.putfield 55, 3) := by decide +kernel
theorem d_X5_start_30 : decode cX5_start 30 = .ok (.iconst 0, 1) := by decide +kernel
theorem d_X5_start_31 : decode cX5_start 31 = .ok (.istore_n 2, 1) := by decide +kernel
theorem d_X5_start_32 : decode cX5_start 32 = .ok (.iload_n 2, 1) := by decide +kernel
theorem d_X5_start_33 : decode cX5_start 33 = .ok (.aload_n 0, 1) := by decide +kernel
theorem d_X5_start_34 : decode cX5_start 34 = .ok (.getfield 35, 3) := by decide +kernel
theorem d_X5_start_37 : decode cX5_start 37 = .ok (.arraylength, 1) := by decide +kernel
theorem d_X5_start_38 : decode cX5_start 38 = .ok (.if_icmp .ge 16, 3) := by decide +kernel
theorem d_X5_start_41 : decode cX5_start 41 = .ok (.aload_n 0, 1) := by decide +kernel
theorem d_X5_start_42 : decode cX5_start 42 = .ok (.getfield 35, 3) := by decide +kernel
theorem d_X5_start_45 : decode cX5_start 45 = .ok (.iload_n 2, 1) := by decide +kernel
theorem d_X5_start_46 : decode cX5_start 46 = .ok (.iconst 0, 1) := by decide +kernel
theorem d_X5_start_47 : decode cX5_start 47 = .ok (.bastore, 1) := by decide +kernel
theorem d_X5_start_48 : decode cX5_start 48 = .ok (.iinc 2 1, 3) := by decide +kernel
theorem d_X5_start_51 : decode cX5_start 51 = .ok (.goto (-19), 3) := by decide +kernel
theorem d_X5_start_54 : decode cX5_start 54 = .ok (.return_, 1) := by decide +kernel
def f_X5_start_32B (k32 : Int32 → Mem → Option (Unit × Mem)) (v2 : Int32) (S : Mem) : Option (Unit × Mem) := (if 5 ≤ v2 then (some ((), S)) else (if inb v2 5 = true then (k32 (v2 + 1) (sI S 13 ((v2 : Int32).toNatClampNeg) 0)) else none))
set_option maxRecDepth 20000 in
theorem t_X5_start_32B {X : MC} {Γ : GG} (C : CX X Γ cX5_start 3 "TickPools$Runner" 0 0) (hr : X.2.2.2.2.2.2.2.2.1.sig.returnType = none) {k32 : Int32 → Mem → Option (Unit × Mem)} {q : Unit × Mem} (hk32 : ∀ (v2 : Int32) (S : Mem), k32 v2 S = some q → ZZ X Γ 3 (QQ X Γ none q.2) S 32 [(0, aR 9), (2, aI v2)] []) (v2 : Int32) (S : Mem) (hf : f_X5_start_32B k32 v2 S = some q) : ZZ X Γ 3 (QQ X Γ none q.2) S 32 [(0, aR 9), (2, aI v2)] [] := by
  unfold f_X5_start_32B at hf
  refine z_iload_n (j := 1) C d_X5_start_32 rfl ?_
  refine z_aload_n (j := 0) C d_X5_start_33 rfl ?_
  refine zg_X5_locked C rfl tw_394 d_X5_start_34 ?_
  refine z_alen (v := 5) C rfl (by decide) (by decide) d_X5_start_37 ?_
  refine z_icmp_ge (tgt := 54) C d_X5_start_38 (by decide) hf (fun c38 hf => ?_) (fun c38 hf => ?_)
  · exact r_v C hr d_X5_start_54 hf
  · refine z_aload_n (j := 0) C d_X5_start_41 rfl ?_
    refine zg_X5_locked C rfl tw_394 d_X5_start_42 ?_
    refine z_iload_n (j := 1) C d_X5_start_45 rfl ?_
    refine z_iconst (v := 0) C d_X5_start_46 (by decide) ?_
    obtain ⟨hi47_0, hf⟩ := gd hf
    refine z_zast C rfl hi47_0 (by decide) d_X5_start_47 ?_
    refine z_iinc (j := 1) (v := (v2 + 1)) (lv' := [(2, aI (v2 + 1)), (0, aR 9)]) C d_X5_start_48 rfl rfl (by decide) rfl ?_
    refine z_goto (tgt := 32) C d_X5_start_51 (by decide) ?_
    exact z_sub [1, 0] rfl (hk32 _ _ hf)
def f_X5_start_32 : Nat → Int32 → Mem → Option (Unit × Mem)
  | 0 => fun _ _ => none
  | n + 1 => f_X5_start_32B (f_X5_start_32 n)
theorem t_X5_start_32 {X : MC} {Γ : GG} (C : CX X Γ cX5_start 3 "TickPools$Runner" 0 0) (hr : X.2.2.2.2.2.2.2.2.1.sig.returnType = none) {q : Unit × Mem} : ∀ (n : Nat) (v2 : Int32) (S : Mem) (hf : f_X5_start_32 n v2 S = some q), ZZ X Γ 3 (QQ X Γ none q.2) S 32 [(0, aR 9), (2, aI v2)] []
  | 0, _, _, hf => nomatch (show (none : Option (Unit × Mem)) = some q from hf)
  | n + 1, v2, S, hf => t_X5_start_32B C hr (t_X5_start_32 C hr n) v2 S hf
def f_X5_start_30 (S : Mem) : Option (Unit × Mem) := (f_X5_start_32  100000 0 S)
set_option maxRecDepth 20000 in
theorem t_X5_start_30 {X : MC} {Γ : GG} (C : CX X Γ cX5_start 3 "TickPools$Runner" 0 0) (hr : X.2.2.2.2.2.2.2.2.1.sig.returnType = none) {q : Unit × Mem} (S : Mem) (hf : f_X5_start_30 S = some q) : ZZ X Γ 3 (QQ X Γ none q.2) S 30 [(0, aR 9)] [] := by
  unfold f_X5_start_30 at hf
  refine z_iconst (v := 0) C d_X5_start_30 (by decide) ?_
  refine z_istore_n (lv' := [(2, aI 0), (0, aR 9)]) C d_X5_start_31 (by decide) rfl ?_
  exact z_sub [1, 0] rfl (t_X5_start_32 C hr  100000 _ _ hf)
def f_X5_start_15 (S : Mem) : Option (Unit × Mem) := (f_X5_start_30  (sL (sI (sI S 9 6 0) 9 7 0) 9 8 0))
set_option maxRecDepth 20000 in
theorem t_X5_start_15 {X : MC} {Γ : GG} (C : CX X Γ cX5_start 3 "TickPools$Runner" 0 0) (hr : X.2.2.2.2.2.2.2.2.1.sig.returnType = none) {q : Unit × Mem} (S : Mem) (hf : f_X5_start_15 S = some q) : ZZ X Γ 3 (QQ X Γ none q.2) S 15 [(0, aR 9)] [] := by
  unfold f_X5_start_15 at hf
  refine z_aload_n (j := 0) C d_X5_start_15 rfl ?_
  refine z_iconst (v := 0) C d_X5_start_16 (by decide) ?_
  refine zp_X5_at C rfl tw_388 d_X5_start_17 ?_
  refine z_aload_n (j := 0) C d_X5_start_20 rfl ?_
  refine z_iconst (v := 0) C d_X5_start_21 (by decide) ?_
  refine zp_X5_deep C rfl tw_389 d_X5_start_22 ?_
  refine z_aload_n (j := 0) C d_X5_start_25 rfl ?_
  refine z_lconst (v := 0) C d_X5_start_26 (by decide) ?_
  refine zp_X5_got C rfl tw_390 d_X5_start_27 ?_
  exact z_sub [0] rfl (t_X5_start_30 C hr  _ hf)
/-- TickPools$Runner.start(I)V -/
def f_X5_start (p1 : Int32) (S : Mem) : Option (Unit × Mem) := (f_X5_start_15  (sI (sI (sI S 9 5 p1) 9 0 0) 9 1 0))
set_option maxRecDepth 20000 in
theorem c_X5_start {l : Launch} {Γ : GG} (hI : Inj Γ) {p1 : Int32} {S : Mem} {q : Unit × Mem} (hf : f_X5_start p1 S = some q) : MM l Γ yX5_start cX5_start 3 (none) 0 0 [aR 9, aI p1] S none q.2 := by
  refine met_of hI "TickPools$Runner" rfl (by decide +kernel) (Nat.le_of_ble_eq_true rfl) (fun X hX C hr => ?_)
  unfold f_X5_start at hf
  show ZZ X Γ 3 _ S 0 [(0, aR 9), (1, aI p1)] []
  refine z_aload_n (j := 0) C d_X5_start_0 rfl ?_
  refine z_iload_n (j := 1) C d_X5_start_1 rfl ?_
  refine zp_X5_person C rfl tw_387 d_X5_start_2 ?_
  refine z_aload_n (j := 0) C d_X5_start_5 rfl ?_
  refine z_iconst (v := 0) C d_X5_start_6 (by decide) ?_
  refine zp_X5_done C rfl tw_380 d_X5_start_7 ?_
  refine z_aload_n (j := 0) C d_X5_start_10 rfl ?_
  refine z_iconst (v := 0) C d_X5_start_11 (by decide) ?_
  refine zp_X5_failure C rfl tw_382 d_X5_start_12 ?_
  exact z_sub [0] rfl (t_X5_start_15 C hr  _ hf)
theorem d_X5_goesOn_0 : decode cX5_goesOn 0 = .ok (.aload_n 0, 1) := by decide +kernel
theorem d_X5_goesOn_1 : decode cX5_goesOn 1 = .ok (.getfield 46, 3) := by decide +kernel
theorem d_X5_goesOn_4 : decode cX5_goesOn 4 = .ok (.ifCond .ne 28, 3) := by decide +kernel
theorem d_X5_goesOn_7 : decode cX5_goesOn 7 = .ok (.aload_n 0, 1) := by decide +kernel
theorem d_X5_goesOn_8 : decode cX5_goesOn 8 = .ok (.getfield 52, 3) := by decide +kernel
theorem d_X5_goesOn_11 : decode cX5_goesOn 11 = .ok (.ifCond .gt 17, 3) := by decide +kernel
theorem d_X5_goesOn_14 : decode cX5_goesOn 14 = .ok (.aload_n 0, 1) := by decide +kernel
theorem d_X5_goesOn_15 : decode cX5_goesOn 15 = .ok (.getfield 49, 3) := by decide +kernel
theorem d_X5_goesOn_18 : decode cX5_goesOn 18 = .ok (.aload_n 0, 1) := by decide +kernel
theorem d_X5_goesOn_19 : decode cX5_goesOn 19 = .ok (.getfield 15, 3) := by decide +kernel
theorem d_X5_goesOn_22 : decode cX5_goesOn 22 = .ok (.getfield 59, 3) := by decide +kernel
theorem d_X5_goesOn_25 : decode cX5_goesOn 25 = .ok (.if_icmp .ge 7, 3) := by decide +kernel
theorem d_X5_goesOn_28 : decode cX5_goesOn 28 = .ok (.iconst 1, 1) := by decide +kernel
theorem d_X5_goesOn_29 : decode cX5_goesOn 29 = .ok (.goto 4, 3) := by decide +kernel
theorem d_X5_goesOn_32 : decode cX5_goesOn 32 = .ok (.iconst 0, 1) := by decide +kernel
theorem d_X5_goesOn_33 : decode cX5_goesOn 33 = .ok (.ireturn, 1) := by decide +kernel
def f_X5_goesOn_33 (s0 : Int32) (S : Mem) : Option (Int32 × Mem) := (if isB s0 = true then (some (s0, S)) else none)
set_option maxRecDepth 20000 in
theorem t_X5_goesOn_33 {X : MC} {Γ : GG} (C : CX X Γ cX5_goesOn 1 "TickPools$Runner" 0 0) (hr : X.2.2.2.2.2.2.2.2.1.sig.returnType = some .boolean) {q : Int32 × Mem} (s0 : Int32) (S : Mem) (hf : f_X5_goesOn_33 s0 S = some q) : ZZ X Γ 1 (QQ X Γ (some (aI q.1)) q.2) S 33 [] [aI s0] := by
  unfold f_X5_goesOn_33 at hf
  obtain ⟨hb33_0, hf⟩ := gd hf
  exact r_i C hr (isB_nar hb33_0).1 d_X5_goesOn_33 hf
def f_X5_goesOn_28 (S : Mem) : Option (Int32 × Mem) := (f_X5_goesOn_33  1 S)
set_option maxRecDepth 20000 in
theorem t_X5_goesOn_28 {X : MC} {Γ : GG} (C : CX X Γ cX5_goesOn 1 "TickPools$Runner" 0 0) (hr : X.2.2.2.2.2.2.2.2.1.sig.returnType = some .boolean) {q : Int32 × Mem} (S : Mem) (hf : f_X5_goesOn_28 S = some q) : ZZ X Γ 1 (QQ X Γ (some (aI q.1)) q.2) S 28 [] [] := by
  unfold f_X5_goesOn_28 at hf
  refine z_iconst (v := 1) C d_X5_goesOn_28 (by decide) ?_
  refine z_goto (tgt := 33) C d_X5_goesOn_29 (by decide) ?_
  exact z_sub [] rfl (t_X5_goesOn_33 C hr  _ _ hf)
def f_X5_goesOn_32 (S : Mem) : Option (Int32 × Mem) := (f_X5_goesOn_33  0 S)
set_option maxRecDepth 20000 in
theorem t_X5_goesOn_32 {X : MC} {Γ : GG} (C : CX X Γ cX5_goesOn 1 "TickPools$Runner" 0 0) (hr : X.2.2.2.2.2.2.2.2.1.sig.returnType = some .boolean) {q : Int32 × Mem} (S : Mem) (hf : f_X5_goesOn_32 S = some q) : ZZ X Γ 1 (QQ X Γ (some (aI q.1)) q.2) S 32 [] [] := by
  unfold f_X5_goesOn_32 at hf
  refine z_iconst (v := 0) C d_X5_goesOn_32 (by decide) ?_
  exact z_sub [] rfl (t_X5_goesOn_33 C hr  _ _ hf)
/-- TickPools$Runner.goesOn()Z -/
def f_X5_goesOn (S : Mem) : Option (Int32 × Mem) := (if (gI S 9 1) = 0 then (if 0 < (gI S 9 7) then (f_X5_goesOn_28  S) else (if (gI S 6 0) ≤ (gI S 9 6) then (f_X5_goesOn_32  S) else (f_X5_goesOn_28  S))) else (f_X5_goesOn_32  S))
set_option maxRecDepth 20000 in
theorem c_X5_goesOn {l : Launch} {Γ : GG} (hI : Inj Γ) {S : Mem} {q : Int32 × Mem} (hf : f_X5_goesOn S = some q) : MM l Γ yX5_goesOn cX5_goesOn 1 (some .boolean) 0 0 [aR 9] S (some (aI q.1)) q.2 := by
  refine met_of hI "TickPools$Runner" rfl (by decide +kernel) (Nat.le_of_ble_eq_true rfl) (fun X hX C hr => ?_)
  unfold f_X5_goesOn at hf
  show ZZ X Γ 1 _ S 0 [(0, aR 9)] []
  refine z_aload_n (j := 0) C d_X5_goesOn_0 rfl ?_
  refine zg_X5_failure C rfl tw_382 d_X5_goesOn_1 ?_
  refine z_if_ne (tgt := 32) C d_X5_goesOn_4 (by decide) hf (fun c4 hf => ?_) (fun c4 hf => ?_)
  · exact z_sub [] rfl (t_X5_goesOn_32 C hr  _ hf)
  · refine z_aload_n (j := 0) C d_X5_goesOn_7 rfl ?_
    refine zg_X5_deep C rfl tw_389 d_X5_goesOn_8 ?_
    refine z_if_gt (tgt := 28) C d_X5_goesOn_11 (by decide) hf (fun c11 hf => ?_) (fun c11 hf => ?_)
    · exact z_sub [] rfl (t_X5_goesOn_28 C hr  _ hf)
    · refine z_aload_n (j := 0) C d_X5_goesOn_14 rfl ?_
      refine zg_X5_at C rfl tw_388 d_X5_goesOn_15 ?_
      refine z_aload_n (j := 0) C d_X5_goesOn_18 rfl ?_
      refine zg_X5_script C rfl tw_385 d_X5_goesOn_19 ?_
      refine zg_X6_size C rfl tw_358 d_X5_goesOn_22 ?_
      refine z_icmp_ge (tgt := 32) C d_X5_goesOn_25 (by decide) hf (fun c25 hf => ?_) (fun c25 hf => ?_)
      · exact z_sub [] rfl (t_X5_goesOn_32 C hr  _ hf)
      · exact z_sub [] rfl (t_X5_goesOn_28 C hr  _ hf)
theorem d_X6_stepAt_0 : decode cX6_stepAt 0 = .ok (.iload_n 1, 1) := by decide +kernel
theorem d_X6_stepAt_1 : decode cX6_stepAt 1 = .ok (.ifCond .lt 29, 3) := by decide +kernel
theorem d_X6_stepAt_4 : decode cX6_stepAt 4 = .ok (.iload_n 1, 1) := by decide +kernel
theorem d_X6_stepAt_5 : decode cX6_stepAt 5 = .ok (.aload_n 0, 1) := by decide +kernel
theorem d_X6_stepAt_6 : decode cX6_stepAt 6 = .ok (.getfield 26, 3) := by decide +kernel
theorem d_X6_stepAt_9 : decode cX6_stepAt 9 = .ok (.if_icmp .ge 21, 3) := by decide +kernel
theorem d_X6_stepAt_12 : decode cX6_stepAt 12 = .ok (.iload_n 1, 1) := by decide +kernel
theorem d_X6_stepAt_13 : decode cX6_stepAt 13 = .ok (.aload_n 0, 1) := by decide +kernel
theorem d_X6_stepAt_14 : decode cX6_stepAt 14 = .ok (.getfield 17, 3) := by decide +kernel
theorem d_X6_stepAt_17 : decode cX6_stepAt 17 = .ok (.arraylength, 1) := by decide +kernel
theorem d_X6_stepAt_18 : decode cX6_stepAt 18 = .ok (.if_icmp .ge 12, 3) := by decide +kernel
theorem d_X6_stepAt_21 : decode cX6_stepAt 21 = .ok (.aload_n 0, 1) := by decide +kernel
theorem d_X6_stepAt_22 : decode cX6_stepAt 22 = .ok (.getfield 17, 3) := by decide +kernel
theorem d_X6_stepAt_25 : decode cX6_stepAt 25 = .ok (.iload_n 1, 1) := by decide +kernel
theorem d_X6_stepAt_26 : decode cX6_stepAt 26 = .ok (.aaload, 1) := by decide +kernel
theorem d_X6_stepAt_27 : decode cX6_stepAt 27 = .ok (.goto 4, 3) := by decide +kernel
theorem d_X6_stepAt_30 : decode cX6_stepAt 30 = .ok (.aconst_null, 1) := by decide +kernel
theorem d_X6_stepAt_31 : decode cX6_stepAt 31 = .ok (.areturn, 1) := by decide +kernel
def f_X6_stepAt_31 (s0 : Nat) (S : Mem) : Option (Nat × Mem) := (some (s0, S))
set_option maxRecDepth 20000 in
theorem t_X6_stepAt_31 {X : MC} {Γ : GG} (C : CX X Γ cX6_stepAt 2 "TickPools$Script" 0 0) (hr : X.2.2.2.2.2.2.2.2.1.sig.returnType = some (.object "TickPools$Step")) {q : Nat × Mem} (s0 : Nat) (S : Mem) (hf : f_X6_stepAt_31 s0 S = some q) : ZZ X Γ 2 (QQ X Γ (some (aR q.1)) q.2) S 31 [] [aR s0] := by
  unfold f_X6_stepAt_31 at hf
  exact r_a C hr d_X6_stepAt_31 hf
def f_X6_stepAt_30 (S : Mem) : Option (Nat × Mem) := (f_X6_stepAt_31  0 S)
set_option maxRecDepth 20000 in
theorem t_X6_stepAt_30 {X : MC} {Γ : GG} (C : CX X Γ cX6_stepAt 2 "TickPools$Script" 0 0) (hr : X.2.2.2.2.2.2.2.2.1.sig.returnType = some (.object "TickPools$Step")) {q : Nat × Mem} (S : Mem) (hf : f_X6_stepAt_30 S = some q) : ZZ X Γ 2 (QQ X Γ (some (aR q.1)) q.2) S 30 [] [] := by
  unfold f_X6_stepAt_30 at hf
  refine z_null C d_X6_stepAt_30 ?_
  exact z_sub [] rfl (t_X6_stepAt_31 C hr  _ _ hf)
/-- TickPools$Script.stepAt(I)LTickPools$Step; -/
def f_X6_stepAt (p1 : Int32) (S : Mem) : Option (Nat × Mem) := (if p1 < 0 then (f_X6_stepAt_30  S) else (if (gI S 6 0) ≤ p1 then (f_X6_stepAt_30  S) else (if 40 ≤ p1 then (f_X6_stepAt_30  S) else (if inb p1 40 = true then (f_X6_stepAt_31  (7 + 31 + ((p1 : Int32).toNatClampNeg)) S) else none))))
set_option maxRecDepth 20000 in
theorem c_X6_stepAt {l : Launch} {Γ : GG} (hI : Inj Γ) {p1 : Int32} {S : Mem} {q : Nat × Mem} (hf : f_X6_stepAt p1 S = some q) : MM l Γ yX6_stepAt cX6_stepAt 2 (some (.object "TickPools$Step")) 0 0 [aR 6, aI p1] S (some (aR q.1)) q.2 := by
  refine met_of hI "TickPools$Script" rfl (by decide +kernel) (Nat.le_of_ble_eq_true rfl) (fun X hX C hr => ?_)
  unfold f_X6_stepAt at hf
  show ZZ X Γ 2 _ S 0 [(0, aR 6), (1, aI p1)] []
  refine z_iload_n (j := 1) C d_X6_stepAt_0 rfl ?_
  refine z_if_lt (tgt := 30) C d_X6_stepAt_1 (by decide) hf (fun c1 hf => ?_) (fun c1 hf => ?_)
  · exact z_sub [] rfl (t_X6_stepAt_30 C hr  _ hf)
  · refine z_iload_n (j := 1) C d_X6_stepAt_4 rfl ?_
    refine z_aload_n (j := 0) C d_X6_stepAt_5 rfl ?_
    refine zg_X6_size C rfl tw_357 d_X6_stepAt_6 ?_
    refine z_icmp_ge (tgt := 30) C d_X6_stepAt_9 (by decide) hf (fun c9 hf => ?_) (fun c9 hf => ?_)
    · exact z_sub [] rfl (t_X6_stepAt_30 C hr  _ hf)
    · refine z_iload_n (j := 1) C d_X6_stepAt_12 rfl ?_
      refine z_aload_n (j := 0) C d_X6_stepAt_13 rfl ?_
      refine zg_X6_steps C rfl tw_360 d_X6_stepAt_14 ?_
      refine z_alen (v := 40) C rfl (by decide) (by decide) d_X6_stepAt_17 ?_
      refine z_icmp_ge (tgt := 30) C d_X6_stepAt_18 (by decide) hf (fun c18 hf => ?_) (fun c18 hf => ?_)
      · exact z_sub [] rfl (t_X6_stepAt_30 C hr  _ hf)
      · refine z_aload_n (j := 0) C d_X6_stepAt_21 rfl ?_
        refine zg_X6_steps C rfl tw_360 d_X6_stepAt_22 ?_
        refine z_iload_n (j := 1) C d_X6_stepAt_25 rfl ?_
        obtain ⟨hi26_0, hf⟩ := gd hf
        refine z_aldT C rfl hi26_0 d_X6_stepAt_26 ?_
        refine z_goto (tgt := 31) C d_X6_stepAt_27 (by decide) ?_
        exact z_sub [] rfl (t_X6_stepAt_31 C hr  _ _ hf)
theorem d_X5_setLocked_0 : decode cX5_setLocked 0 = .ok (.iload_n 1, 1) := by decide +kernel
theorem d_X5_setLocked_1 : decode cX5_setLocked 1 = .ok (.ifCond .lt 19, 3) := by decide +kernel
theorem d_X5_setLocked_4 : decode cX5_setLocked 4 = .ok (.iload_n 1, 1) := by decide +kernel
theorem d_X5_setLocked_5 : decode cX5_setLocked 5 = .ok (.aload_n 0, 1) := by decide +kernel
theorem d_X5_setLocked_6 : decode cX5_setLocked 6 = .ok (.getfield 35, 3) := by decide +kernel
theorem d_X5_setLocked_9 : decode cX5_setLocked 9 = .ok (.arraylength, 1) := by decide +kernel
theorem d_X5_setLocked_10 : decode cX5_setLocked 10 = .ok (.if_icmp .ge 10, 3) := by decide +kernel
theorem d_X5_setLocked_13 : decode cX5_setLocked 13 = .ok (.aload_n 0, 1) := by decide +kernel
theorem d_X5_setLocked_14 : decode cX5_setLocked 14 = .ok (.getfield 35, 3) := by decide +kernel
theorem d_X5_setLocked_17 : decode cX5_setLocked 17 = .ok (.iload_n 1, 1) := by decide +kernel
theorem d_X5_setLocked_18 : decode cX5_setLocked 18 = .ok (.iload_n 2, 1) := by decide +kernel
theorem d_X5_setLocked_19 : decode cX5_setLocked 19 = .ok (.bastore, 1) := by decide +kernel
theorem d_X5_setLocked_20 : decode cX5_setLocked 20 = .ok (.return_, 1) := by decide +kernel
def f_X5_setLocked_20 (S : Mem) : Option (Unit × Mem) := (some ((), S))
set_option maxRecDepth 20000 in
theorem t_X5_setLocked_20 {X : MC} {Γ : GG} (C : CX X Γ cX5_setLocked 3 "TickPools$Runner" 0 0) (hr : X.2.2.2.2.2.2.2.2.1.sig.returnType = none) {q : Unit × Mem} (S : Mem) (hf : f_X5_setLocked_20 S = some q) : ZZ X Γ 3 (QQ X Γ none q.2) S 20 [] [] := by
  unfold f_X5_setLocked_20 at hf
  exact r_v C hr d_X5_setLocked_20 hf
/-- TickPools$Runner.setLocked(IZ)V -/
def f_X5_setLocked (p1 : Int32) (p2 : Int32) (S : Mem) : Option (Unit × Mem) := (if p1 < 0 then (f_X5_setLocked_20  S) else (if 5 ≤ p1 then (f_X5_setLocked_20  S) else (if inb p1 5 = true then (if isB p2 = true then (f_X5_setLocked_20  (sI S 13 ((p1 : Int32).toNatClampNeg) p2)) else none) else none)))
set_option maxRecDepth 20000 in
theorem c_X5_setLocked {l : Launch} {Γ : GG} (hI : Inj Γ) {p1 : Int32} {p2 : Int32} {S : Mem} {q : Unit × Mem} (hf : f_X5_setLocked p1 p2 S = some q) : MM l Γ yX5_setLocked cX5_setLocked 3 (none) 0 0 [aR 9, aI p1, aI p2] S none q.2 := by
  refine met_of hI "TickPools$Runner" rfl (by decide +kernel) (Nat.le_of_ble_eq_true rfl) (fun X hX C hr => ?_)
  unfold f_X5_setLocked at hf
  show ZZ X Γ 3 _ S 0 [(0, aR 9), (1, aI p1), (2, aI p2)] []
  refine z_iload_n (j := 1) C d_X5_setLocked_0 rfl ?_
  refine z_if_lt (tgt := 20) C d_X5_setLocked_1 (by decide) hf (fun c1 hf => ?_) (fun c1 hf => ?_)
  · exact z_sub [] rfl (t_X5_setLocked_20 C hr  _ hf)
  · refine z_iload_n (j := 1) C d_X5_setLocked_4 rfl ?_
    refine z_aload_n (j := 0) C d_X5_setLocked_5 rfl ?_
    refine zg_X5_locked C rfl tw_394 d_X5_setLocked_6 ?_
    refine z_alen (v := 5) C rfl (by decide) (by decide) d_X5_setLocked_9 ?_
    refine z_icmp_ge (tgt := 20) C d_X5_setLocked_10 (by decide) hf (fun c10 hf => ?_) (fun c10 hf => ?_)
    · exact z_sub [] rfl (t_X5_setLocked_20 C hr  _ hf)
    · refine z_aload_n (j := 0) C d_X5_setLocked_13 rfl ?_
      refine zg_X5_locked C rfl tw_394 d_X5_setLocked_14 ?_
      refine z_iload_n (j := 1) C d_X5_setLocked_17 rfl ?_
      refine z_iload_n (j := 2) C d_X5_setLocked_18 rfl ?_
      obtain ⟨hi19_0, hf⟩ := gd hf
      obtain ⟨hb19_1, hf⟩ := gd hf
      refine z_zast C rfl hi19_0 hb19_1 d_X5_setLocked_19 ?_
      exact z_sub [] rfl (t_X5_setLocked_20 C hr  _ hf)
theorem d_X5_fail_0 : decode cX5_fail 0 = .ok (.aload_n 0, 1) := by decide +kernel
theorem d_X5_fail_1 : decode cX5_fail 1 = .ok (.iconst 1, 1) := by decide +kernel
theorem d_X5_fail_2 : decode cX5_fail 2 = .ok (.bipush 8, 2) := by decide +kernel
theorem d_X5_fail_4 : decode cX5_fail 4 = .ok (.aload_n 1, 1) := by decide +kernel
theorem d_X5_fail_5 : decode cX5_fail 5 = .ok (.getfield 130, 3) := by decide +kernel
theorem d_X5_fail_8 : decode cX5_fail 8 = .ok (.imul, 1) := by decide +kernel
theorem d_X5_fail_9 : decode cX5_fail 9 = .ok (.iadd, 1) := by decide +kernel
theorem d_X5_fail_10 : decode cX5_fail 10 = .ok (.iload_n 2, 1) := by decide +kernel
theorem d_X5_fail_11 : decode cX5_fail 11 = .ok (.iadd, 1) := by decide +kernel
theorem d_X5_fail_12 : decode cX5_fail 12 = .ok (.putfield 46, 3) := by decide +kernel
theorem d_X5_fail_15 : decode cX5_fail 15 = .ok (.return_, 1) := by decide +kernel
/-- TickPools$Runner.fail(LTickPools$Step;I)V -/
def f_X5_fail (p1 : Nat) (p2 : Int32) (S : Mem) : Option (Unit × Mem) := (if kd p1 = (7, 10) then (some ((), (sI S 9 1 ((1 + (8 * (gI S p1 1))) + p2)))) else none)
set_option maxRecDepth 20000 in
theorem c_X5_fail {l : Launch} {Γ : GG} (hI : Inj Γ) {p1 : Nat} {p2 : Int32} {S : Mem} {q : Unit × Mem} (hf : f_X5_fail p1 p2 S = some q) : MM l Γ yX5_fail cX5_fail 3 (none) 0 0 [aR 9, aR p1, aI p2] S none q.2 := by
  refine met_of hI "TickPools$Runner" rfl (by decide +kernel) (Nat.le_of_ble_eq_true rfl) (fun X hX C hr => ?_)
  unfold f_X5_fail at hf
  show ZZ X Γ 3 _ S 0 [(0, aR 9), (1, aR p1), (2, aI p2)] []
  refine z_aload_n (j := 0) C d_X5_fail_0 rfl ?_
  refine z_iconst (v := 1) C d_X5_fail_1 (by decide) ?_
  refine z_bipush (v := 8) C d_X5_fail_2 (by decide) ?_
  refine z_aload_n (j := 1) C d_X5_fail_4 rfl ?_
  obtain ⟨hg5_0, hf⟩ := gd hf
  refine zg_X8_place C hg5_0 tw_318 d_X5_fail_5 ?_
  refine z_imul C d_X5_fail_8 ?_
  refine z_iadd C d_X5_fail_9 ?_
  refine z_iload_n (j := 2) C d_X5_fail_10 rfl ?_
  refine z_iadd C d_X5_fail_11 ?_
  refine zp_X5_failure C rfl tw_382 d_X5_fail_12 ?_
  exact r_v C hr d_X5_fail_15 hf
theorem d_X5_giveBack_0 : decode cX5_giveBack 0 = .ok (.aload_n 0, 1) := by decide +kernel
theorem d_X5_giveBack_1 : decode cX5_giveBack 1 = .ok (.getfield 9, 3) := by decide +kernel
theorem d_X5_giveBack_4 : decode cX5_giveBack 4 = .ok (.aload_n 1, 1) := by decide +kernel
theorem d_X5_giveBack_5 : decode cX5_giveBack 5 = .ok (.getfield 89, 3) := by decide +kernel
theorem d_X5_giveBack_8 : decode cX5_giveBack 8 = .ok (.invokevirtual 136, 3) := by decide +kernel
theorem d_X5_giveBack_11 : decode cX5_giveBack 11 = .ok (.astore_n 3, 1) := by decide +kernel
theorem d_X5_giveBack_12 : decode cX5_giveBack 12 = .ok (.aload_n 0, 1) := by decide +kernel
theorem d_X5_giveBack_13 : decode cX5_giveBack 13 = .ok (.aload_n 1, 1) := by decide +kernel
theorem d_X5_giveBack_14 : decode cX5_giveBack 14 = .ok (.getfield 89, 3) := by decide +kernel
theorem d_X5_giveBack_17 : decode cX5_giveBack 17 = .ok (.iconst 0, 1) := by decide +kernel
theorem d_X5_giveBack_18 : decode cX5_giveBack 18 = .ok (.invokevirtual 212, 3) := by decide +kernel
theorem d_X5_giveBack_21 : decode cX5_giveBack 21 = .ok (.aload_n 3, 1) := by decide +kernel
theorem d_X5_giveBack_22 : decode cX5_giveBack 22 = .ok (.ifnonnull 4, 3) := by decide +kernel
theorem d_X5_giveBack_25 : decode cX5_giveBack 25 = .ok (.return_, 1) := by decide +kernel
theorem d_X5_giveBack_26 : decode cX5_giveBack 26 = .ok (.iload_n 2, 1) := by decide +kernel
theorem d_X5_giveBack_27 : decode cX5_giveBack 27 = .ok (.i2l, 1) := by decide +kernel
theorem d_X5_giveBack_28 : decode cX5_giveBack 28 = .ok (.aload_n 3, 1) := by decide +kernel
theorem d_X5_giveBack_29 : decode cX5_giveBack 29 = .ok (.getfield 222, 3) := by decide +kernel
theorem d_X5_giveBack_32 : decode cX5_giveBack 32 = .ok (.i2l, 1) := by decide +kernel
theorem d_X5_giveBack_33 : decode cX5_giveBack 33 = .ok (.lmul, 1) := by decide +kernel
theorem d_X5_giveBack_34 : decode cX5_giveBack 34 = .ok (.ldc2_w 225, 3) := by decide +kernel
theorem d_X5_giveBack_37 : decode cX5_giveBack 37 = .ok (.invokestatic 227, 3) := by decide +kernel
theorem d_X5_giveBack_40 : decode cX5_giveBack 40 = .ok (.l2i, 1) := by decide +kernel
theorem d_X5_giveBack_41 : decode cX5_giveBack 41 = .ok (.istore 4, 2) := by decide +kernel
theorem d_X5_giveBack_43 : decode cX5_giveBack 43 = .ok (.aload_n 0, 1) := by decide +kernel
theorem d_X5_giveBack_44 : decode cX5_giveBack 44 = .ok (.getfield 9, 3) := by decide +kernel
theorem d_X5_giveBack_47 : decode cX5_giveBack 47 = .ok (.aload_n 0, 1) := by decide +kernel
theorem d_X5_giveBack_48 : decode cX5_giveBack 48 = .ok (.getfield 39, 3) := by decide +kernel
theorem d_X5_giveBack_51 : decode cX5_giveBack 51 = .ok (.aload_n 3, 1) := by decide +kernel
theorem d_X5_giveBack_52 : decode cX5_giveBack 52 = .ok (.aload_n 1, 1) := by decide +kernel
theorem d_X5_giveBack_53 : decode cX5_giveBack 53 = .ok (.getfield 140, 3) := by decide +kernel
theorem d_X5_giveBack_56 : decode cX5_giveBack 56 = .ok (.invokevirtual 143, 3) := by decide +kernel
theorem d_X5_giveBack_59 : decode cX5_giveBack 59 = .ok (.invokevirtual 120, 3) := by decide +kernel
theorem d_X5_giveBack_62 : decode cX5_giveBack 62 = .ok (.iload_n 2, 1) := by decide +kernel
theorem d_X5_giveBack_63 : decode cX5_giveBack 63 = .ok (.iload 4, 2) := by decide +kernel
theorem d_X5_giveBack_65 : decode cX5_giveBack 65 = .ok (.iadd, 1) := by decide +kernel
theorem d_X5_giveBack_66 : decode cX5_giveBack 66 = .ok (.if_icmp .ge 11, 3) := by decide +kernel
theorem d_X5_giveBack_69 : decode cX5_giveBack 69 = .ok (.aload_n 0, 1) := by decide +kernel
theorem d_X5_giveBack_70 : decode cX5_giveBack 70 = .ok (.aload_n 1, 1) := by decide +kernel
theorem d_X5_giveBack_71 : decode cX5_giveBack 71 = .ok (.bipush 7, 2) := by decide +kernel
theorem d_X5_giveBack_73 : decode cX5_giveBack 73 = .ok (.invokevirtual 75, 3) := by decide +kernel
theorem d_X5_giveBack_76 : decode cX5_giveBack 76 = .ok (.return_, 1) := by decide +kernel
theorem d_X5_giveBack_77 : decode cX5_giveBack 77 = .ok (.aload_n 0, 1) := by decide +kernel
theorem d_X5_giveBack_78 : decode cX5_giveBack 78 = .ok (.getfield 9, 3) := by decide +kernel
theorem d_X5_giveBack_81 : decode cX5_giveBack 81 = .ok (.aload_n 3, 1) := by decide +kernel
theorem d_X5_giveBack_82 : decode cX5_giveBack 82 = .ok (.aload_n 1, 1) := by decide +kernel
theorem d_X5_giveBack_83 : decode cX5_giveBack 83 = .ok (.getfield 140, 3) := by decide +kernel
theorem d_X5_giveBack_86 : decode cX5_giveBack 86 = .ok (.aload_n 0, 1) := by decide +kernel
theorem d_X5_giveBack_87 : decode cX5_giveBack 87 = .ok (.getfield 39, 3) := by decide +kernel
theorem d_X5_giveBack_90 : decode cX5_giveBack 90 = .ok (.iload_n 2, 1) := by decide +kernel
theorem d_X5_giveBack_91 : decode cX5_giveBack 91 = .ok (.iload 4, 2) := by decide +kernel
theorem d_X5_giveBack_93 : decode cX5_giveBack 93 = .ok (.iadd, 1) := by decide +kernel
theorem d_X5_giveBack_94 : decode cX5_giveBack 94 = .ok (.ineg, 1) := by decide +kernel
theorem d_X5_giveBack_95 : decode cX5_giveBack 95 = .ok (.invokevirtual 208, 3) := by decide +kernel
theorem d_X5_giveBack_98 : decode cX5_giveBack 98 = .ok (.aload_n 0, 1) := by decide +kernel
theorem d_X5_giveBack_99 : decode cX5_giveBack 99 = .ok (.getfield 9, 3) := by decide +kernel
theorem d_X5_giveBack_102 : decode cX5_giveBack 102 = .ok (.aload_n 1, 1) := by decide +kernel
theorem d_X5_giveBack_103 : decode cX5_giveBack 103 = .ok (.getfield 89, 3) := by decide +kernel
theorem d_X5_giveBack_106 : decode cX5_giveBack 106 = .ok (.aload_n 1, 1) := by decide +kernel
theorem d_X5_giveBack_107 : decode cX5_giveBack 107 = .ok (.getfield 140, 3) := by decide +kernel
theorem d_X5_giveBack_110 : decode cX5_giveBack 110 = .ok (.iload 4, 2) := by decide +kernel
theorem d_X5_giveBack_112 : decode cX5_giveBack 112 = .ok (.i2l, 1) := by decide +kernel
theorem d_X5_giveBack_113 : decode cX5_giveBack 113 = .ok (.invokevirtual 233, 3) := by decide +kernel
theorem d_X5_giveBack_116 : decode cX5_giveBack 116 = .ok (.return_, 1) := by decide +kernel
def f_X5_giveBack_43 (v1 : Nat) (v2 : Int32) (v3 : Nat) (v4 : Int32) (S : Mem) : Option (Unit × Mem) := (if kd v1 = (7, 10) then (if kd v3 = (3, 12) then ((f_X4_thingOn v3 (gI S v1 3) S).bind fun q56 => ((f_X2_purseOf 78 (gI S 9 5) q56.1 q56.2).bind fun q59 => (if (v2 + v4) ≤ q59.1 then ((f_X2_payOut 78 v3 (gI q59.2 v1 3) (gI q59.2 9 5) (-(v2 + v4)) q59.2).bind fun q95 => ((f_X2_share 78 (gI q95.2 v1 2) (gI q95.2 v1 3) (v4.toInt64) q95.2).bind fun q113 => (some ((), q113.2)))) else ((f_X5_fail v1 7 q59.2).bind fun q73 => (some ((), q73.2)))))) else none) else none)
set_option maxRecDepth 20000 in
theorem t_X5_giveBack_43 {X : MC} {Γ : GG} (C : CX X Γ cX5_giveBack 5 "TickPools$Runner" 2 59) (hr : X.2.2.2.2.2.2.2.2.1.sig.returnType = none) {q : Unit × Mem} (v1 : Nat) (v2 : Int32) (v3 : Nat) (v4 : Int32) (S : Mem) (hf : f_X5_giveBack_43 v1 v2 v3 v4 S = some q) : ZZ X Γ 5 (QQ X Γ none q.2) S 43 [(0, aR 9), (1, aR v1), (2, aI v2), (3, aR v3), (4, aI v4)] [] := by
  unfold f_X5_giveBack_43 at hf
  refine z_aload_n (j := 0) C d_X5_giveBack_43 rfl ?_
  refine zg_X5_market C rfl tw_384 d_X5_giveBack_44 ?_
  refine z_aload_n (j := 0) C d_X5_giveBack_47 rfl ?_
  refine zg_X5_person C rfl tw_387 d_X5_giveBack_48 ?_
  refine z_aload_n (j := 3) C d_X5_giveBack_51 rfl ?_
  refine z_aload_n (j := 1) C d_X5_giveBack_52 rfl ?_
  obtain ⟨hg53_0, hf⟩ := gd hf
  refine zg_X8_side C hg53_0 tw_323 d_X5_giveBack_53 ?_
  obtain ⟨hg56_1, hf⟩ := gd hf
  obtain ⟨q56, hF, hf⟩ := bd hf
  refine z_callV1 (rest := [aI (gI S 9 5), aR 78]) C [aI (gI S v1 3)] hg56_1 (by decide) rfl rfl k_X4_thingOn tw_788 ⟨by decide, by decide⟩ (Nat.le_of_ble_eq_true rfl) d_X5_giveBack_56 (c_X4_thingOn C.inj hF) rfl ?_
  obtain ⟨q59, hF, hf⟩ := bd hf
  refine z_callV1 (rest := []) C [aI (gI S 9 5), aI q56.1] rfl (by decide) rfl rfl k_X2_purseOf tw_792 ⟨by decide, by decide⟩ (Nat.le_of_ble_eq_true rfl) d_X5_giveBack_59 (c_X2_purseOf C.inj hF) rfl ?_
  refine z_iload_n (j := 2) C d_X5_giveBack_62 rfl ?_
  refine z_iload (j := 4) C d_X5_giveBack_63 rfl ?_
  refine z_iadd C d_X5_giveBack_65 ?_
  refine z_icmp_ge (tgt := 77) C d_X5_giveBack_66 (by decide) hf (fun c66 hf => ?_) (fun c66 hf => ?_)
  · refine z_aload_n (j := 0) C d_X5_giveBack_77 rfl ?_
    refine zg_X5_market C rfl tw_384 d_X5_giveBack_78 ?_
    refine z_aload_n (j := 3) C d_X5_giveBack_81 rfl ?_
    refine z_aload_n (j := 1) C d_X5_giveBack_82 rfl ?_
    refine zg_X8_side C hg53_0 tw_323 d_X5_giveBack_83 ?_
    refine z_aload_n (j := 0) C d_X5_giveBack_86 rfl ?_
    refine zg_X5_person C rfl tw_387 d_X5_giveBack_87 ?_
    refine z_iload_n (j := 2) C d_X5_giveBack_90 rfl ?_
    refine z_iload (j := 4) C d_X5_giveBack_91 rfl ?_
    refine z_iadd C d_X5_giveBack_93 ?_
    refine z_ineg C d_X5_giveBack_94 ?_
    obtain ⟨q95, hF, hf⟩ := bd hf
    refine z_callV0 (rest := []) C [aR v3, aI (gI q59.2 v1 3), aI (gI q59.2 9 5), aI (-(v2 + v4))] rfl (by decide) rfl rfl k_X2_payOut tw_797 ⟨by decide, by decide⟩ (Nat.le_of_ble_eq_true rfl) d_X5_giveBack_95 (c_X2_payOut C.inj hF) rfl ?_
    refine z_aload_n (j := 0) C d_X5_giveBack_98 rfl ?_
    refine zg_X5_market C rfl tw_384 d_X5_giveBack_99 ?_
    refine z_aload_n (j := 1) C d_X5_giveBack_102 rfl ?_
    refine zg_X8_pool C hg53_0 tw_320 d_X5_giveBack_103 ?_
    refine z_aload_n (j := 1) C d_X5_giveBack_106 rfl ?_
    refine zg_X8_side C hg53_0 tw_323 d_X5_giveBack_107 ?_
    refine z_iload (j := 4) C d_X5_giveBack_110 rfl ?_
    refine z_i2l C d_X5_giveBack_112 ?_
    obtain ⟨q113, hF, hf⟩ := bd hf
    refine z_callV0 (rest := []) C [aI (gI q95.2 v1 2), aI (gI q95.2 v1 3), aJ (v4.toInt64)] rfl (by decide) rfl rfl k_X2_share tw_806 ⟨by decide, by decide⟩ (Nat.le_of_ble_eq_true rfl) d_X5_giveBack_113 (c_X2_share C.inj hF) rfl ?_
    exact r_v C hr d_X5_giveBack_116 hf
  · refine z_aload_n (j := 0) C d_X5_giveBack_69 rfl ?_
    refine z_aload_n (j := 1) C d_X5_giveBack_70 rfl ?_
    refine z_bipush (v := 7) C d_X5_giveBack_71 (by decide) ?_
    obtain ⟨q73, hF, hf⟩ := bd hf
    refine z_callV0 (rest := []) C [aR v1, aI 7] rfl (by decide) rfl rfl k_X5_fail tw_793 ⟨by decide, by decide⟩ (Nat.le_of_ble_eq_true rfl) d_X5_giveBack_73 (c_X5_fail C.inj hF) rfl ?_
    exact r_v C hr d_X5_giveBack_76 hf
/-- TickPools$Runner.giveBack(LTickPools$Step;I)V -/
def f_X5_giveBack (p1 : Nat) (p2 : Int32) (S : Mem) : Option (Unit × Mem) := (if kd p1 = (7, 10) then ((f_X2_poolAt 78 (gI S p1 2) S).bind fun q8 => ((f_X5_setLocked (gI q8.2 p1 2) 0 q8.2).bind fun q18 => (if q8.1 = 0 then (some ((), q18.2)) else (if kd q8.1 = (3, 12) then ((f_X0_upwards ((p2.toInt64) * (((gI q18.2 q8.1 2) : Int32).toInt64)) 1000 q18.2).bind fun q37 => (f_X5_giveBack_43  p1 p2 q8.1 ((q37.1 : Int64).toInt32) q37.2)) else none)))) else none)
set_option maxRecDepth 20000 in
theorem c_X5_giveBack {l : Launch} {Γ : GG} (hI : Inj Γ) {p1 : Nat} {p2 : Int32} {S : Mem} {q : Unit × Mem} (hf : f_X5_giveBack p1 p2 S = some q) : MM l Γ yX5_giveBack cX5_giveBack 5 (none) 2 59 [aR 9, aR p1, aI p2] S none q.2 := by
  refine met_of hI "TickPools$Runner" rfl (by decide +kernel) (Nat.le_of_ble_eq_true rfl) (fun X hX C hr => ?_)
  unfold f_X5_giveBack at hf
  show ZZ X Γ 5 _ S 0 [(0, aR 9), (1, aR p1), (2, aI p2)] []
  refine z_aload_n (j := 0) C d_X5_giveBack_0 rfl ?_
  refine zg_X5_market C rfl tw_384 d_X5_giveBack_1 ?_
  refine z_aload_n (j := 1) C d_X5_giveBack_4 rfl ?_
  obtain ⟨hg5_0, hf⟩ := gd hf
  refine zg_X8_pool C hg5_0 tw_320 d_X5_giveBack_5 ?_
  obtain ⟨q8, hF, hf⟩ := bd hf
  refine z_callV1 (rest := []) C [aI (gI S p1 2)] rfl (by decide) rfl rfl k_X2_poolAt tw_776 ⟨by decide, by decide⟩ (Nat.le_of_ble_eq_true rfl) d_X5_giveBack_8 (c_X2_poolAt C.inj hF) rfl ?_
  refine z_astore_n (lv' := [(3, aR q8.1), (0, aR 9), (1, aR p1), (2, aI p2)]) C d_X5_giveBack_11 (by decide) rfl ?_
  refine z_aload_n (j := 1) C d_X5_giveBack_12 rfl ?_
  refine z_aload_n (j := 2) C d_X5_giveBack_13 rfl ?_
  refine zg_X8_pool C hg5_0 tw_320 d_X5_giveBack_14 ?_
  refine z_iconst (v := 0) C d_X5_giveBack_17 (by decide) ?_
  obtain ⟨q18, hF, hf⟩ := bd hf
  refine z_callV0 (rest := []) C [aI (gI q8.2 p1 2), aI 0] rfl (by decide) rfl rfl k_X5_setLocked tw_780 ⟨by decide, by decide⟩ (Nat.le_of_ble_eq_true rfl) d_X5_giveBack_18 (c_X5_setLocked C.inj hF) rfl ?_
  refine z_aload_n (j := 0) C d_X5_giveBack_21 rfl ?_
  refine z_ifnonnull (tgt := 26) C d_X5_giveBack_22 (by decide) hf (fun c22 hf => ?_) (fun c22 hf => ?_)
  · refine z_iload_n (j := 3) C d_X5_giveBack_26 rfl ?_
    refine z_i2l C d_X5_giveBack_27 ?_
    refine z_aload_n (j := 0) C d_X5_giveBack_28 rfl ?_
    obtain ⟨hg29_1, hf⟩ := gd hf
    refine zg_X4_fee C hg29_1 tw_86 d_X5_giveBack_29 ?_
    refine z_i2l C d_X5_giveBack_32 ?_
    refine z_lmul C d_X5_giveBack_33 ?_
    refine z_ldc2 (v := 1000) C tw_784 d_X5_giveBack_34 ?_
    obtain ⟨q37, hF, hf⟩ := bd hf
    refine z_callS1 (rest := []) C [aJ ((p2.toInt64) * (((gI q18.2 q8.1 2) : Int32).toInt64)), aJ 1000] k_X0_upwards tw_785 ⟨by decide, by decide⟩ (Nat.le_of_ble_eq_true rfl) d_X5_giveBack_37 (c_X0_upwards C.inj hF) rfl ?_
    refine z_l2i C d_X5_giveBack_40 ?_
    refine z_istore (lv' := [(4, aI ((q37.1 : Int64).toInt32)), (3, aR q8.1), (0, aR 9), (1, aR p1), (2, aI p2)]) C d_X5_giveBack_41 (by decide) rfl ?_
    exact z_sub [2, 3, 4, 1, 0] rfl (t_X5_giveBack_43 C hr  _ _ _ _ _ hf)
  · exact r_v C hr d_X5_giveBack_25 hf
theorem d_X5_closeBracket_0 : decode cX5_closeBracket 0 = .ok (.aload_n 0, 1) := by decide +kernel
theorem d_X5_closeBracket_1 : decode cX5_closeBracket 1 = .ok (.getfield 52, 3) := by decide +kernel
theorem d_X5_closeBracket_4 : decode cX5_closeBracket 4 = .ok (.iconst 1, 1) := by decide +kernel
theorem d_X5_closeBracket_5 : decode cX5_closeBracket 5 = .ok (.isub, 1) := by decide +kernel
theorem d_X5_closeBracket_6 : decode cX5_closeBracket 6 = .ok (.istore_n 2, 1) := by decide +kernel
theorem d_X5_closeBracket_7 : decode cX5_closeBracket 7 = .ok (.iload_n 2, 1) := by decide +kernel
theorem d_X5_closeBracket_8 : decode cX5_closeBracket 8 = .ok (.ifCond .lt 12, 3) := by decide +kernel
theorem d_X5_closeBracket_11 : decode cX5_closeBracket 11 = .ok (.iload_n 2, 1) := by decide +kernel
theorem d_X5_closeBracket_12 : decode cX5_closeBracket 12 = .ok (.aload_n 0, 1) := by decide +kernel
theorem d_X5_closeBracket_13 : decode cX5_closeBracket 13 = .ok (.getfield 25, 3) := by decide +kernel
theorem d_X5_closeBracket_16 : decode cX5_closeBracket 16 = .ok (.arraylength, 1) := by decide +kernel
theorem d_X5_closeBracket_17 : decode cX5_closeBracket 17 = .ok (.if_icmp .lt 4, 3) := by decide +kernel
theorem d_X5_closeBracket_20 : decode cX5_closeBracket 20 = .ok (.return_, 1) := by decide +kernel
theorem d_X5_closeBracket_21 : decode cX5_closeBracket 21 = .ok (.aload_n 1, 1) := by decide +kernel
theorem d_X5_closeBracket_22 : decode cX5_closeBracket 22 = .ok (.getfield 79, 3) := by decide +kernel
theorem d_X5_closeBracket_25 : decode cX5_closeBracket 25 = .ok (.iconst 5, 1) := by decide +kernel
theorem d_X5_closeBracket_26 : decode cX5_closeBracket 26 = .ok (.if_icmp .ne 20, 3) := by decide +kernel
theorem d_X5_closeBracket_29 : decode cX5_closeBracket 29 = .ok (.aload_n 0, 1) := by decide +kernel
theorem d_X5_closeBracket_30 : decode cX5_closeBracket 30 = .ok (.aload_n 1, 1) := by decide +kernel
theorem d_X5_closeBracket_31 : decode cX5_closeBracket 31 = .ok (.aload_n 0, 1) := by decide +kernel
theorem d_X5_closeBracket_32 : decode cX5_closeBracket 32 = .ok (.getfield 32, 3) := by decide +kernel
theorem d_X5_closeBracket_35 : decode cX5_closeBracket 35 = .ok (.iload_n 2, 1) := by decide +kernel
theorem d_X5_closeBracket_36 : decode cX5_closeBracket 36 = .ok (.iaload, 1) := by decide +kernel
theorem d_X5_closeBracket_37 : decode cX5_closeBracket 37 = .ok (.invokevirtual 219, 3) := by decide +kernel
theorem d_X5_closeBracket_40 : decode cX5_closeBracket 40 = .ok (.aload_n 0, 1) := by decide +kernel
theorem d_X5_closeBracket_41 : decode cX5_closeBracket 41 = .ok (.iload_n 2, 1) := by decide +kernel
theorem d_X5_closeBracket_42 : decode cX5_closeBracket 42 = .ok (.putfield 52, 3) := by decide +kernel
theorem d_X5_closeBracket_45 : decode cX5_closeBracket 45 = .ok (.return_, 1) := by decide +kernel
theorem d_X5_closeBracket_46 : decode cX5_closeBracket 46 = .ok (.aload_n 0, 1) := by decide +kernel
theorem d_X5_closeBracket_47 : decode cX5_closeBracket 47 = .ok (.getfield 29, 3) := by decide +kernel
theorem d_X5_closeBracket_50 : decode cX5_closeBracket 50 = .ok (.iload_n 2, 1) := by decide +kernel
theorem d_X5_closeBracket_51 : decode cX5_closeBracket 51 = .ok (.dup2, 1) := by decide +kernel
theorem d_X5_closeBracket_52 : decode cX5_closeBracket 52 = .ok (.iaload, 1) := by decide +kernel
theorem d_X5_closeBracket_53 : decode cX5_closeBracket 53 = .ok (.iconst 1, 1) := by decide +kernel
theorem d_X5_closeBracket_54 : decode cX5_closeBracket 54 = .ok (.isub, 1) := by decide +kernel
theorem d_X5_closeBracket_55 : decode cX5_closeBracket 55 = .ok (.iastore, 1) := by decide +kernel
theorem d_X5_closeBracket_56 : decode cX5_closeBracket 56 = .ok (.aload_n 0, 1) := by decide +kernel
theorem d_X5_closeBracket_57 : decode cX5_closeBracket 57 = .ok (.getfield 29, 3) := by decide +kernel
theorem d_X5_closeBracket_60 : decode cX5_closeBracket 60 = .ok (.iload_n 2, 1) := by decide +kernel
theorem d_X5_closeBracket_61 : decode cX5_closeBracket 61 = .ok (.iaload, 1) := by decide +kernel
theorem d_X5_closeBracket_62 : decode cX5_closeBracket 62 = .ok (.ifCond .le 18, 3) := by decide +kernel
theorem d_X5_closeBracket_65 : decode cX5_closeBracket 65 = .ok (.aload_n 0, 1) := by decide +kernel
theorem d_X5_closeBracket_66 : decode cX5_closeBracket 66 = .ok (.aload_n 0, 1) := by decide +kernel
theorem d_X5_closeBracket_67 : decode cX5_closeBracket 67 = .ok (.getfield 25, 3) := by decide +kernel
theorem d_X5_closeBracket_70 : decode cX5_closeBracket 70 = .ok (.iload_n 2, 1) := by decide +kernel
theorem d_X5_closeBracket_71 : decode cX5_closeBracket 71 = .ok (.iaload, 1) := by decide +kernel
theorem d_X5_closeBracket_72 : decode cX5_closeBracket 72 = .ok (.iconst 1, 1) := by decide +kernel
theorem d_X5_closeBracket_73 : decode cX5_closeBracket 73 = .ok (.iadd, 1) := by decide +kernel
theorem d_X5_closeBracket_74 : decode cX5_closeBracket 74 = .ok (.putfield 49, 3) := by decide +kernel
theorem d_X5_closeBracket_77 : decode cX5_closeBracket 77 = .ok (.goto 8, 3) := by decide +kernel
theorem d_X5_closeBracket_80 : decode cX5_closeBracket 80 = .ok (.aload_n 0, 1) := by decide +kernel
theorem d_X5_closeBracket_81 : decode cX5_closeBracket 81 = .ok (.iload_n 2, 1) := by decide +kernel
theorem d_X5_closeBracket_82 : decode cX5_closeBracket 82 = .ok (.putfield 52, 3) := by decide +kernel
theorem d_X5_closeBracket_85 : decode cX5_closeBracket 85 = .ok (.return_, 1) := by decide +kernel
def f_X5_closeBracket_20 (S : Mem) : Option (Unit × Mem) := (some ((), S))
set_option maxRecDepth 20000 in
theorem t_X5_closeBracket_20 {X : MC} {Γ : GG} (C : CX X Γ cX5_closeBracket 3 "TickPools$Runner" 3 83) (hr : X.2.2.2.2.2.2.2.2.1.sig.returnType = none) {q : Unit × Mem} (S : Mem) (hf : f_X5_closeBracket_20 S = some q) : ZZ X Γ 3 (QQ X Γ none q.2) S 20 [] [] := by
  unfold f_X5_closeBracket_20 at hf
  exact r_v C hr d_X5_closeBracket_20 hf
def f_X5_closeBracket_85 (S : Mem) : Option (Unit × Mem) := (some ((), S))
set_option maxRecDepth 20000 in
theorem t_X5_closeBracket_85 {X : MC} {Γ : GG} (C : CX X Γ cX5_closeBracket 3 "TickPools$Runner" 3 83) (hr : X.2.2.2.2.2.2.2.2.1.sig.returnType = none) {q : Unit × Mem} (S : Mem) (hf : f_X5_closeBracket_85 S = some q) : ZZ X Γ 3 (QQ X Γ none q.2) S 85 [] [] := by
  unfold f_X5_closeBracket_85 at hf
  exact r_v C hr d_X5_closeBracket_85 hf
def f_X5_closeBracket_7 (v1 : Nat) (v2 : Int32) (S : Mem) : Option (Unit × Mem) := (if v2 < 0 then (f_X5_closeBracket_20  S) else (if v2 < 4 then (if kd v1 = (7, 10) then (if (gI S v1 0) = 5 then (if inb v2 4 = true then ((f_X5_giveBack v1 (gI S 12 ((v2 : Int32).toNatClampNeg)) S).bind fun q37 => (some ((), (sI q37.2 9 7 v2)))) else none) else (if inb v2 4 = true then (if inb v2 4 = true then (if inb v2 4 = true then (if (gI (sI S 11 ((v2 : Int32).toNatClampNeg) ((gI S 11 ((v2 : Int32).toNatClampNeg)) - 1)) 11 ((v2 : Int32).toNatClampNeg)) ≤ 0 then (f_X5_closeBracket_85  (sI (sI S 11 ((v2 : Int32).toNatClampNeg) ((gI S 11 ((v2 : Int32).toNatClampNeg)) - 1)) 9 7 v2)) else (if inb v2 4 = true then (f_X5_closeBracket_85  (sI (sI S 11 ((v2 : Int32).toNatClampNeg) ((gI S 11 ((v2 : Int32).toNatClampNeg)) - 1)) 9 6 ((gI (sI S 11 ((v2 : Int32).toNatClampNeg) ((gI S 11 ((v2 : Int32).toNatClampNeg)) - 1)) 10 ((v2 : Int32).toNatClampNeg)) + 1))) else none)) else none) else none) else none)) else none) else (f_X5_closeBracket_20  S)))
set_option maxRecDepth 20000 in
theorem t_X5_closeBracket_7 {X : MC} {Γ : GG} (C : CX X Γ cX5_closeBracket 3 "TickPools$Runner" 3 83) (hr : X.2.2.2.2.2.2.2.2.1.sig.returnType = none) {q : Unit × Mem} (v1 : Nat) (v2 : Int32) (S : Mem) (hf : f_X5_closeBracket_7 v1 v2 S = some q) : ZZ X Γ 3 (QQ X Γ none q.2) S 7 [(0, aR 9), (1, aR v1), (2, aI v2)] [] := by
  unfold f_X5_closeBracket_7 at hf
  refine z_iload_n (j := 2) C d_X5_closeBracket_7 rfl ?_
  refine z_if_lt (tgt := 20) C d_X5_closeBracket_8 (by decide) hf (fun c8 hf => ?_) (fun c8 hf => ?_)
  · exact z_sub [] rfl (t_X5_closeBracket_20 C hr  _ hf)
  · refine z_iload_n (j := 2) C d_X5_closeBracket_11 rfl ?_
    refine z_aload_n (j := 0) C d_X5_closeBracket_12 rfl ?_
    refine zg_X5_open C rfl tw_391 d_X5_closeBracket_13 ?_
    refine z_alen (v := 4) C rfl (by decide) (by decide) d_X5_closeBracket_16 ?_
    refine z_icmp_lt (tgt := 21) C d_X5_closeBracket_17 (by decide) hf (fun c17 hf => ?_) (fun c17 hf => ?_)
    · refine z_aload_n (j := 1) C d_X5_closeBracket_21 rfl ?_
      obtain ⟨hg22_0, hf⟩ := gd hf
      refine zg_X8_kind C hg22_0 tw_316 d_X5_closeBracket_22 ?_
      refine z_iconst (v := 5) C d_X5_closeBracket_25 (by decide) ?_
      refine z_icmp_ne (tgt := 46) C d_X5_closeBracket_26 (by decide) hf (fun c26 hf => ?_) (fun c26 hf => ?_)
      · refine z_aload_n (j := 0) C d_X5_closeBracket_46 rfl ?_
        refine zg_X5_rounds C rfl tw_392 d_X5_closeBracket_47 ?_
        refine z_iload_n (j := 2) C d_X5_closeBracket_50 rfl ?_
        refine z_dup2_11 C d_X5_closeBracket_51 rfl rfl ?_
        obtain ⟨hi52_0, hf⟩ := gd hf
        refine z_iald C rfl hi52_0 d_X5_closeBracket_52 ?_
        refine z_iconst (v := 1) C d_X5_closeBracket_53 (by decide) ?_
        refine z_isub C d_X5_closeBracket_54 ?_
        obtain ⟨hi55_1, hf⟩ := gd hf
        refine z_iast C rfl hi55_1 d_X5_closeBracket_55 ?_
        refine z_aload_n (j := 0) C d_X5_closeBracket_56 rfl ?_
        refine zg_X5_rounds C rfl tw_392 d_X5_closeBracket_57 ?_
        refine z_iload_n (j := 2) C d_X5_closeBracket_60 rfl ?_
        obtain ⟨hi61_2, hf⟩ := gd hf
        refine z_iald C rfl hi61_2 d_X5_closeBracket_61 ?_
        refine z_if_le (tgt := 80) C d_X5_closeBracket_62 (by decide) hf (fun c62 hf => ?_) (fun c62 hf => ?_)
        · refine z_aload_n (j := 0) C d_X5_closeBracket_80 rfl ?_
          refine z_iload_n (j := 2) C d_X5_closeBracket_81 rfl ?_
          refine zp_X5_deep C rfl tw_389 d_X5_closeBracket_82 ?_
          exact z_sub [] rfl (t_X5_closeBracket_85 C hr  _ hf)
        · refine z_aload_n (j := 0) C d_X5_closeBracket_65 rfl ?_
          refine z_aload_n (j := 0) C d_X5_closeBracket_66 rfl ?_
          refine zg_X5_open C rfl tw_391 d_X5_closeBracket_67 ?_
          refine z_iload_n (j := 2) C d_X5_closeBracket_70 rfl ?_
          obtain ⟨hi71_0, hf⟩ := gd hf
          refine z_iald C rfl hi71_0 d_X5_closeBracket_71 ?_
          refine z_iconst (v := 1) C d_X5_closeBracket_72 (by decide) ?_
          refine z_iadd C d_X5_closeBracket_73 ?_
          refine zp_X5_at C rfl tw_388 d_X5_closeBracket_74 ?_
          refine z_goto (tgt := 85) C d_X5_closeBracket_77 (by decide) ?_
          exact z_sub [] rfl (t_X5_closeBracket_85 C hr  _ hf)
      · refine z_aload_n (j := 0) C d_X5_closeBracket_29 rfl ?_
        refine z_aload_n (j := 1) C d_X5_closeBracket_30 rfl ?_
        refine z_aload_n (j := 0) C d_X5_closeBracket_31 rfl ?_
        refine zg_X5_lent C rfl tw_393 d_X5_closeBracket_32 ?_
        refine z_iload_n (j := 2) C d_X5_closeBracket_35 rfl ?_
        obtain ⟨hi36_0, hf⟩ := gd hf
        refine z_iald C rfl hi36_0 d_X5_closeBracket_36 ?_
        obtain ⟨q37, hF, hf⟩ := bd hf
        refine z_callV0 (rest := []) C [aR v1, aI (gI S 12 ((v2 : Int32).toNatClampNeg))] rfl (by decide) rfl rfl k_X5_giveBack tw_772 ⟨by decide, by decide⟩ (Nat.le_of_ble_eq_true rfl) d_X5_closeBracket_37 (c_X5_giveBack C.inj hF) rfl ?_
        refine z_aload_n (j := 0) C d_X5_closeBracket_40 rfl ?_
        refine z_iload_n (j := 2) C d_X5_closeBracket_41 rfl ?_
        refine zp_X5_deep C rfl tw_389 d_X5_closeBracket_42 ?_
        exact r_v C hr d_X5_closeBracket_45 hf
    · exact z_sub [] rfl (t_X5_closeBracket_20 C hr  _ hf)
/-- TickPools$Runner.closeBracket(LTickPools$Step;)V -/
def f_X5_closeBracket (p1 : Nat) (S : Mem) : Option (Unit × Mem) := (f_X5_closeBracket_7  p1 ((gI S 9 7) - 1) S)
set_option maxRecDepth 20000 in
theorem c_X5_closeBracket {l : Launch} {Γ : GG} (hI : Inj Γ) {p1 : Nat} {S : Mem} {q : Unit × Mem} (hf : f_X5_closeBracket p1 S = some q) : MM l Γ yX5_closeBracket cX5_closeBracket 3 (none) 3 83 [aR 9, aR p1] S none q.2 := by
  refine met_of hI "TickPools$Runner" rfl (by decide +kernel) (Nat.le_of_ble_eq_true rfl) (fun X hX C hr => ?_)
  unfold f_X5_closeBracket at hf
  show ZZ X Γ 3 _ S 0 [(0, aR 9), (1, aR p1)] []
  refine z_aload_n (j := 0) C d_X5_closeBracket_0 rfl ?_
  refine zg_X5_deep C rfl tw_389 d_X5_closeBracket_1 ?_
  refine z_iconst (v := 1) C d_X5_closeBracket_4 (by decide) ?_
  refine z_isub C d_X5_closeBracket_5 ?_
  refine z_istore_n (lv' := [(2, aI ((gI S 9 7) - 1)), (0, aR 9), (1, aR p1)]) C d_X5_closeBracket_6 (by decide) rfl ?_
  exact z_sub [1, 2, 0] rfl (t_X5_closeBracket_7 C hr  _ _ _ hf)
theorem d_X5_isLocked_0 : decode cX5_isLocked 0 = .ok (.iload_n 1, 1) := by decide +kernel
theorem d_X5_isLocked_1 : decode cX5_isLocked 1 = .ok (.ifCond .lt 25, 3) := by decide +kernel
theorem d_X5_isLocked_4 : decode cX5_isLocked 4 = .ok (.iload_n 1, 1) := by decide +kernel
theorem d_X5_isLocked_5 : decode cX5_isLocked 5 = .ok (.aload_n 0, 1) := by decide +kernel
theorem d_X5_isLocked_6 : decode cX5_isLocked 6 = .ok (.getfield 35, 3) := by decide +kernel
theorem d_X5_isLocked_9 : decode cX5_isLocked 9 = .ok (.arraylength, 1) := by decide +kernel
theorem d_X5_isLocked_10 : decode cX5_isLocked 10 = .ok (.if_icmp .ge 16, 3) := by decide +kernel
theorem d_X5_isLocked_13 : decode cX5_isLocked 13 = .ok (.aload_n 0, 1) := by decide +kernel
theorem d_X5_isLocked_14 : decode cX5_isLocked 14 = .ok (.getfield 35, 3) := by decide +kernel
theorem d_X5_isLocked_17 : decode cX5_isLocked 17 = .ok (.iload_n 1, 1) := by decide +kernel
theorem d_X5_isLocked_18 : decode cX5_isLocked 18 = .ok (.baload, 1) := by decide +kernel
theorem d_X5_isLocked_19 : decode cX5_isLocked 19 = .ok (.ifCond .eq 7, 3) := by decide +kernel
theorem d_X5_isLocked_22 : decode cX5_isLocked 22 = .ok (.iconst 1, 1) := by decide +kernel
theorem d_X5_isLocked_23 : decode cX5_isLocked 23 = .ok (.goto 4, 3) := by decide +kernel
theorem d_X5_isLocked_26 : decode cX5_isLocked 26 = .ok (.iconst 0, 1) := by decide +kernel
theorem d_X5_isLocked_27 : decode cX5_isLocked 27 = .ok (.ireturn, 1) := by decide +kernel
def f_X5_isLocked_27 (s0 : Int32) (S : Mem) : Option (Int32 × Mem) := (if isB s0 = true then (some (s0, S)) else none)
set_option maxRecDepth 20000 in
theorem t_X5_isLocked_27 {X : MC} {Γ : GG} (C : CX X Γ cX5_isLocked 2 "TickPools$Runner" 0 0) (hr : X.2.2.2.2.2.2.2.2.1.sig.returnType = some .boolean) {q : Int32 × Mem} (s0 : Int32) (S : Mem) (hf : f_X5_isLocked_27 s0 S = some q) : ZZ X Γ 2 (QQ X Γ (some (aI q.1)) q.2) S 27 [] [aI s0] := by
  unfold f_X5_isLocked_27 at hf
  obtain ⟨hb27_0, hf⟩ := gd hf
  exact r_i C hr (isB_nar hb27_0).1 d_X5_isLocked_27 hf
def f_X5_isLocked_26 (S : Mem) : Option (Int32 × Mem) := (f_X5_isLocked_27  0 S)
set_option maxRecDepth 20000 in
theorem t_X5_isLocked_26 {X : MC} {Γ : GG} (C : CX X Γ cX5_isLocked 2 "TickPools$Runner" 0 0) (hr : X.2.2.2.2.2.2.2.2.1.sig.returnType = some .boolean) {q : Int32 × Mem} (S : Mem) (hf : f_X5_isLocked_26 S = some q) : ZZ X Γ 2 (QQ X Γ (some (aI q.1)) q.2) S 26 [] [] := by
  unfold f_X5_isLocked_26 at hf
  refine z_iconst (v := 0) C d_X5_isLocked_26 (by decide) ?_
  exact z_sub [] rfl (t_X5_isLocked_27 C hr  _ _ hf)
/-- TickPools$Runner.isLocked(I)Z -/
def f_X5_isLocked (p1 : Int32) (S : Mem) : Option (Int32 × Mem) := (if p1 < 0 then (f_X5_isLocked_26  S) else (if 5 ≤ p1 then (f_X5_isLocked_26  S) else (if inb p1 5 = true then (if (gI S 13 ((p1 : Int32).toNatClampNeg)) = 0 then (f_X5_isLocked_26  S) else (f_X5_isLocked_27  1 S)) else none)))
set_option maxRecDepth 20000 in
theorem c_X5_isLocked {l : Launch} {Γ : GG} (hI : Inj Γ) {p1 : Int32} {S : Mem} {q : Int32 × Mem} (hf : f_X5_isLocked p1 S = some q) : MM l Γ yX5_isLocked cX5_isLocked 2 (some .boolean) 0 0 [aR 9, aI p1] S (some (aI q.1)) q.2 := by
  refine met_of hI "TickPools$Runner" rfl (by decide +kernel) (Nat.le_of_ble_eq_true rfl) (fun X hX C hr => ?_)
  unfold f_X5_isLocked at hf
  show ZZ X Γ 2 _ S 0 [(0, aR 9), (1, aI p1)] []
  refine z_iload_n (j := 1) C d_X5_isLocked_0 rfl ?_
  refine z_if_lt (tgt := 26) C d_X5_isLocked_1 (by decide) hf (fun c1 hf => ?_) (fun c1 hf => ?_)
  · exact z_sub [] rfl (t_X5_isLocked_26 C hr  _ hf)
  · refine z_iload_n (j := 1) C d_X5_isLocked_4 rfl ?_
    refine z_aload_n (j := 0) C d_X5_isLocked_5 rfl ?_
    refine zg_X5_locked C rfl tw_394 d_X5_isLocked_6 ?_
    refine z_alen (v := 5) C rfl (by decide) (by decide) d_X5_isLocked_9 ?_
    refine z_icmp_ge (tgt := 26) C d_X5_isLocked_10 (by decide) hf (fun c10 hf => ?_) (fun c10 hf => ?_)
    · exact z_sub [] rfl (t_X5_isLocked_26 C hr  _ hf)
    · refine z_aload_n (j := 0) C d_X5_isLocked_13 rfl ?_
      refine zg_X5_locked C rfl tw_394 d_X5_isLocked_14 ?_
      refine z_iload_n (j := 1) C d_X5_isLocked_17 rfl ?_
      obtain ⟨hi18_0, hf⟩ := gd hf
      refine z_zald C rfl hi18_0 d_X5_isLocked_18 ?_
      refine z_if_eq (tgt := 26) C d_X5_isLocked_19 (by decide) hf (fun c19 hf => ?_) (fun c19 hf => ?_)
      · exact z_sub [] rfl (t_X5_isLocked_26 C hr  _ hf)
      · refine z_iconst (v := 1) C d_X5_isLocked_22 (by decide) ?_
        refine z_goto (tgt := 27) C d_X5_isLocked_23 (by decide) ?_
        exact z_sub [] rfl (t_X5_isLocked_27 C hr  _ _ hf)
theorem d_X5_muchOf_0 : decode cX5_muchOf 0 = .ok (.aload_n 1, 1) := by decide +kernel
theorem d_X5_muchOf_1 : decode cX5_muchOf 1 = .ok (.getfield 133, 3) := by decide +kernel
theorem d_X5_muchOf_4 : decode cX5_muchOf 4 = .ok (.iconst 1, 1) := by decide +kernel
theorem d_X5_muchOf_5 : decode cX5_muchOf 5 = .ok (.if_icmp .ne 6, 3) := by decide +kernel
theorem d_X5_muchOf_8 : decode cX5_muchOf 8 = .ok (.iload_n 2, 1) := by decide +kernel
theorem d_X5_muchOf_9 : decode cX5_muchOf 9 = .ok (.i2l, 1) := by decide +kernel
theorem d_X5_muchOf_10 : decode cX5_muchOf 10 = .ok (.lreturn, 1) := by decide +kernel
theorem d_X5_muchOf_11 : decode cX5_muchOf 11 = .ok (.aload_n 1, 1) := by decide +kernel
theorem d_X5_muchOf_12 : decode cX5_muchOf 12 = .ok (.getfield 133, 3) := by decide +kernel
theorem d_X5_muchOf_15 : decode cX5_muchOf 15 = .ok (.iconst 2, 1) := by decide +kernel
theorem d_X5_muchOf_16 : decode cX5_muchOf 16 = .ok (.if_icmp .ne 10, 3) := by decide +kernel
theorem d_X5_muchOf_19 : decode cX5_muchOf 19 = .ok (.aload_n 0, 1) := by decide +kernel
theorem d_X5_muchOf_20 : decode cX5_muchOf 20 = .ok (.getfield 55, 3) := by decide +kernel
theorem d_X5_muchOf_23 : decode cX5_muchOf 23 = .ok (.goto 8, 3) := by decide +kernel
theorem d_X5_muchOf_26 : decode cX5_muchOf 26 = .ok (.aload_n 1, 1) := by decide +kernel
theorem d_X5_muchOf_27 : decode cX5_muchOf 27 = .ok (.getfield 102, 3) := by decide +kernel
theorem d_X5_muchOf_30 : decode cX5_muchOf 30 = .ok (.i2l, 1) := by decide +kernel
theorem d_X5_muchOf_31 : decode cX5_muchOf 31 = .ok (.lreturn, 1) := by decide +kernel
def f_X5_muchOf_31 (s0 : Int64) (S : Mem) : Option (Int64 × Mem) := (some (s0, S))
set_option maxRecDepth 20000 in
theorem t_X5_muchOf_31 {X : MC} {Γ : GG} (C : CX X Γ cX5_muchOf 3 "TickPools$Runner" 0 0) (hr : X.2.2.2.2.2.2.2.2.1.sig.returnType = some .long) {q : Int64 × Mem} (s0 : Int64) (S : Mem) (hf : f_X5_muchOf_31 s0 S = some q) : ZZ X Γ 3 (QQ X Γ (some (aJ q.1)) q.2) S 31 [] [aJ s0] := by
  unfold f_X5_muchOf_31 at hf
  exact r_l C hr d_X5_muchOf_31 hf
/-- TickPools$Runner.muchOf(LTickPools$Step;I)J -/
def f_X5_muchOf (p1 : Nat) (p2 : Int32) (S : Mem) : Option (Int64 × Mem) := (if kd p1 = (7, 10) then (if (gI S p1 8) = 1 then (some ((p2.toInt64), S)) else (if (gI S p1 8) = 2 then (f_X5_muchOf_31  (gL S 9 8) S) else (f_X5_muchOf_31  (((gI S p1 7) : Int32).toInt64) S))) else none)
set_option maxRecDepth 20000 in
theorem c_X5_muchOf {l : Launch} {Γ : GG} (hI : Inj Γ) {p1 : Nat} {p2 : Int32} {S : Mem} {q : Int64 × Mem} (hf : f_X5_muchOf p1 p2 S = some q) : MM l Γ yX5_muchOf cX5_muchOf 3 (some .long) 0 0 [aR 9, aR p1, aI p2] S (some (aJ q.1)) q.2 := by
  refine met_of hI "TickPools$Runner" rfl (by decide +kernel) (Nat.le_of_ble_eq_true rfl) (fun X hX C hr => ?_)
  unfold f_X5_muchOf at hf
  show ZZ X Γ 3 _ S 0 [(0, aR 9), (1, aR p1), (2, aI p2)] []
  refine z_aload_n (j := 1) C d_X5_muchOf_0 rfl ?_
  obtain ⟨hg1_0, hf⟩ := gd hf
  refine zg_X8_much C hg1_0 tw_332 d_X5_muchOf_1 ?_
  refine z_iconst (v := 1) C d_X5_muchOf_4 (by decide) ?_
  refine z_icmp_ne (tgt := 11) C d_X5_muchOf_5 (by decide) hf (fun c5 hf => ?_) (fun c5 hf => ?_)
  · refine z_aload_n (j := 1) C d_X5_muchOf_11 rfl ?_
    refine zg_X8_much C hg1_0 tw_332 d_X5_muchOf_12 ?_
    refine z_iconst (v := 2) C d_X5_muchOf_15 (by decide) ?_
    refine z_icmp_ne (tgt := 26) C d_X5_muchOf_16 (by decide) hf (fun c16 hf => ?_) (fun c16 hf => ?_)
    · refine z_aload_n (j := 1) C d_X5_muchOf_26 rfl ?_
      refine zg_X8_amount C hg1_0 tw_330 d_X5_muchOf_27 ?_
      refine z_i2l C d_X5_muchOf_30 ?_
      exact z_sub [] rfl (t_X5_muchOf_31 C hr  _ _ hf)
    · refine z_aload_n (j := 0) C d_X5_muchOf_19 rfl ?_
      refine zg_X5_got C rfl tw_390 d_X5_muchOf_20 ?_
      refine z_goto (tgt := 31) C d_X5_muchOf_23 (by decide) ?_
      exact z_sub [] rfl (t_X5_muchOf_31 C hr  _ _ hf)
  · refine z_iload_n (j := 2) C d_X5_muchOf_8 rfl ?_
    refine z_i2l C d_X5_muchOf_9 ?_
    exact r_l C hr d_X5_muchOf_10 hf
theorem d_X5_doIn_0 : decode cX5_doIn 0 = .ok (.aload_n 0, 1) := by decide +kernel
theorem d_X5_doIn_1 : decode cX5_doIn 1 = .ok (.getfield 9, 3) := by decide +kernel
theorem d_X5_doIn_4 : decode cX5_doIn 4 = .ok (.aload_n 1, 1) := by decide +kernel
theorem d_X5_doIn_5 : decode cX5_doIn 5 = .ok (.getfield 89, 3) := by decide +kernel
theorem d_X5_doIn_8 : decode cX5_doIn 8 = .ok (.invokevirtual 136, 3) := by decide +kernel
theorem d_X5_doIn_11 : decode cX5_doIn 11 = .ok (.astore_n 2, 1) := by decide +kernel
theorem d_X5_doIn_12 : decode cX5_doIn 12 = .ok (.aload_n 2, 1) := by decide +kernel
theorem d_X5_doIn_13 : decode cX5_doIn 13 = .ok (.ifnull 14, 3) := by decide +kernel
theorem d_X5_doIn_16 : decode cX5_doIn 16 = .ok (.aload_n 0, 1) := by decide +kernel
theorem d_X5_doIn_17 : decode cX5_doIn 17 = .ok (.aload_n 1, 1) := by decide +kernel
theorem d_X5_doIn_18 : decode cX5_doIn 18 = .ok (.getfield 89, 3) := by decide +kernel
theorem d_X5_doIn_21 : decode cX5_doIn 21 = .ok (.invokevirtual 92, 3) := by decide +kernel
theorem d_X5_doIn_24 : decode cX5_doIn 24 = .ok (.ifCond .eq 5, 3) := by decide +kernel
theorem d_X5_doIn_27 : decode cX5_doIn 27 = .ok (.iconst 0, 1) := by decide +kernel
theorem d_X5_doIn_28 : decode cX5_doIn 28 = .ok (.ireturn, 1) := by decide +kernel
theorem d_X5_doIn_29 : decode cX5_doIn 29 = .ok (.aload_n 0, 1) := by decide +kernel
theorem d_X5_doIn_30 : decode cX5_doIn 30 = .ok (.getfield 9, 3) := by decide +kernel
theorem d_X5_doIn_33 : decode cX5_doIn 33 = .ok (.aload_n 0, 1) := by decide +kernel
theorem d_X5_doIn_34 : decode cX5_doIn 34 = .ok (.getfield 39, 3) := by decide +kernel
theorem d_X5_doIn_37 : decode cX5_doIn 37 = .ok (.aload_n 2, 1) := by decide +kernel
theorem d_X5_doIn_38 : decode cX5_doIn 38 = .ok (.aload_n 1, 1) := by decide +kernel
theorem d_X5_doIn_39 : decode cX5_doIn 39 = .ok (.getfield 140, 3) := by decide +kernel
theorem d_X5_doIn_42 : decode cX5_doIn 42 = .ok (.invokevirtual 143, 3) := by decide +kernel
theorem d_X5_doIn_45 : decode cX5_doIn 45 = .ok (.invokevirtual 120, 3) := by decide +kernel
theorem d_X5_doIn_48 : decode cX5_doIn 48 = .ok (.istore_n 3, 1) := by decide +kernel
theorem d_X5_doIn_49 : decode cX5_doIn 49 = .ok (.aload_n 0, 1) := by decide +kernel
theorem d_X5_doIn_50 : decode cX5_doIn 50 = .ok (.aload_n 1, 1) := by decide +kernel
theorem d_X5_doIn_51 : decode cX5_doIn 51 = .ok (.iload_n 3, 1) := by decide +kernel
theorem d_X5_doIn_52 : decode cX5_doIn 52 = .ok (.invokevirtual 149, 3) := by decide +kernel
theorem d_X5_doIn_55 : decode cX5_doIn 55 = .ok (.lstore 4, 2) := by decide +kernel
theorem d_X5_doIn_57 : decode cX5_doIn 57 = .ok (.lload 4, 2) := by decide +kernel
theorem d_X5_doIn_59 : decode cX5_doIn 59 = .ok (.lconst 1, 1) := by decide +kernel
theorem d_X5_doIn_60 : decode cX5_doIn 60 = .ok (.lcmp, 1) := by decide +kernel
theorem d_X5_doIn_61 : decode cX5_doIn 61 = .ok (.ifCond .lt 11, 3) := by decide +kernel
theorem d_X5_doIn_64 : decode cX5_doIn 64 = .ok (.lload 4, 2) := by decide +kernel
theorem d_X5_doIn_66 : decode cX5_doIn 66 = .ok (.iload_n 3, 1) := by decide +kernel
theorem d_X5_doIn_67 : decode cX5_doIn 67 = .ok (.i2l, 1) := by decide +kernel
theorem d_X5_doIn_68 : decode cX5_doIn 68 = .ok (.lcmp, 1) := by decide +kernel
theorem d_X5_doIn_69 : decode cX5_doIn 69 = .ok (.ifCond .le 5, 3) := by decide +kernel
theorem d_X5_doIn_72 : decode cX5_doIn 72 = .ok (.iconst 0, 1) := by decide +kernel
theorem d_X5_doIn_73 : decode cX5_doIn 73 = .ok (.ireturn, 1) := by decide +kernel
theorem d_X5_doIn_74 : decode cX5_doIn 74 = .ok (.aload_n 0, 1) := by decide +kernel
theorem d_X5_doIn_75 : decode cX5_doIn 75 = .ok (.getfield 19, 3) := by decide +kernel
theorem d_X5_doIn_78 : decode cX5_doIn 78 = .ok (.aload_n 0, 1) := by decide +kernel
theorem d_X5_doIn_79 : decode cX5_doIn 79 = .ok (.getfield 9, 3) := by decide +kernel
theorem d_X5_doIn_82 : decode cX5_doIn 82 = .ok (.aload_n 0, 1) := by decide +kernel
theorem d_X5_doIn_83 : decode cX5_doIn 83 = .ok (.getfield 39, 3) := by decide +kernel
theorem d_X5_doIn_86 : decode cX5_doIn 86 = .ok (.aload_n 1, 1) := by decide +kernel
theorem d_X5_doIn_87 : decode cX5_doIn 87 = .ok (.getfield 89, 3) := by decide +kernel
theorem d_X5_doIn_90 : decode cX5_doIn 90 = .ok (.aload_n 1, 1) := by decide +kernel
theorem d_X5_doIn_91 : decode cX5_doIn 91 = .ok (.getfield 140, 3) := by decide +kernel
theorem d_X5_doIn_94 : decode cX5_doIn 94 = .ok (.lload 4, 2) := by decide +kernel
theorem d_X5_doIn_96 : decode cX5_doIn 96 = .ok (.aload_n 1, 1) := by decide +kernel
theorem d_X5_doIn_97 : decode cX5_doIn 97 = .ok (.getfield 140, 3) := by decide +kernel
theorem d_X5_doIn_100 : decode cX5_doIn 100 = .ok (.invokestatic 153, 3) := by decide +kernel
theorem d_X5_doIn_103 : decode cX5_doIn 103 = .ok (.iconst 1, 1) := by decide +kernel
theorem d_X5_doIn_104 : decode cX5_doIn 104 = .ok (.invokevirtual 156, 3) := by decide +kernel
theorem d_X5_doIn_107 : decode cX5_doIn 107 = .ok (.aload_n 0, 1) := by decide +kernel
theorem d_X5_doIn_108 : decode cX5_doIn 108 = .ok (.aload_n 0, 1) := by decide +kernel
theorem d_X5_doIn_109 : decode cX5_doIn 109 = .ok (.getfield 19, 3) := by decide +kernel
theorem d_X5_doIn_112 : decode cX5_doIn 112 = .ok (.getfield 162, 3) := by decide +kernel
theorem d_X5_doIn_115 : decode cX5_doIn 115 = .ok (.putfield 55, 3) := by decide +kernel
theorem d_X5_doIn_118 : decode cX5_doIn 118 = .ok (.iconst 1, 1) := by decide +kernel
theorem d_X5_doIn_119 : decode cX5_doIn 119 = .ok (.ireturn, 1) := by decide +kernel
def f_X5_doIn_27 (S : Mem) : Option (Int32 × Mem) := (some (0, S))
set_option maxRecDepth 20000 in
theorem t_X5_doIn_27 {X : MC} {Γ : GG} (C : CX X Γ cX5_doIn 6 "TickPools$Runner" 5 148) (hr : X.2.2.2.2.2.2.2.2.1.sig.returnType = some .boolean) {q : Int32 × Mem} (S : Mem) (hf : f_X5_doIn_27 S = some q) : ZZ X Γ 6 (QQ X Γ (some (aI q.1)) q.2) S 27 [] [] := by
  unfold f_X5_doIn_27 at hf
  refine z_iconst (v := 0) C d_X5_doIn_27 (by decide) ?_
  exact r_i C hr (by decide) d_X5_doIn_28 hf
def f_X5_doIn_72 (S : Mem) : Option (Int32 × Mem) := (some (0, S))
set_option maxRecDepth 20000 in
theorem t_X5_doIn_72 {X : MC} {Γ : GG} (C : CX X Γ cX5_doIn 6 "TickPools$Runner" 5 148) (hr : X.2.2.2.2.2.2.2.2.1.sig.returnType = some .boolean) {q : Int32 × Mem} (S : Mem) (hf : f_X5_doIn_72 S = some q) : ZZ X Γ 6 (QQ X Γ (some (aI q.1)) q.2) S 72 [] [] := by
  unfold f_X5_doIn_72 at hf
  refine z_iconst (v := 0) C d_X5_doIn_72 (by decide) ?_
  exact r_i C hr (by decide) d_X5_doIn_73 hf
/-- TickPools$Runner.doIn(LTickPools$Step;)Z -/
def f_X5_doIn (p1 : Nat) (S : Mem) : Option (Int32 × Mem) := (if kd p1 = (7, 10) then ((f_X2_poolAt 78 (gI S p1 2) S).bind fun q8 => (if q8.1 = 0 then (f_X5_doIn_27  q8.2) else ((f_X5_isLocked (gI q8.2 p1 2) q8.2).bind fun q21 => (if q21.1 = 0 then (if kd q8.1 = (3, 12) then ((f_X4_thingOn q8.1 (gI q21.2 p1 3) q21.2).bind fun q42 => ((f_X2_purseOf 78 (gI q21.2 9 5) q42.1 q42.2).bind fun q45 => ((f_X5_muchOf p1 q45.1 q45.2).bind fun q52 => (if q52.1 < 1 then (f_X5_doIn_72  q52.2) else (if q52.1 ≤ (q45.1.toInt64) then ((f_X11_lastTick (gI q52.2 p1 3) q52.2).bind fun q100 => ((f_X10_pour 78 (gI q52.2 9 5) (gI q52.2 p1 2) (gI q52.2 p1 3) q52.1 q100.1 1 q100.2).bind fun q104 => (some (1, (sL q104.2 9 8 (gL q104.2 4 11)))))) else (f_X5_doIn_72  q52.2)))))) else none) else (f_X5_doIn_27  q21.2))))) else none)
set_option maxRecDepth 20000 in
theorem c_X5_doIn {l : Launch} {Γ : GG} (hI : Inj Γ) {p1 : Nat} {S : Mem} {q : Int32 × Mem} (hf : f_X5_doIn p1 S = some q) : MM l Γ yX5_doIn cX5_doIn 6 (some .boolean) 5 148 [aR 9, aR p1] S (some (aI q.1)) q.2 := by
  refine met_of hI "TickPools$Runner" rfl (by decide +kernel) (Nat.le_of_ble_eq_true rfl) (fun X hX C hr => ?_)
  unfold f_X5_doIn at hf
  show ZZ X Γ 6 _ S 0 [(0, aR 9), (1, aR p1)] []
  refine z_aload_n (j := 0) C d_X5_doIn_0 rfl ?_
  refine zg_X5_market C rfl tw_384 d_X5_doIn_1 ?_
  refine z_aload_n (j := 1) C d_X5_doIn_4 rfl ?_
  obtain ⟨hg5_0, hf⟩ := gd hf
  refine zg_X8_pool C hg5_0 tw_320 d_X5_doIn_5 ?_
  obtain ⟨q8, hF, hf⟩ := bd hf
  refine z_callV1 (rest := []) C [aI (gI S p1 2)] rfl (by decide) rfl rfl k_X2_poolAt tw_776 ⟨by decide, by decide⟩ (Nat.le_of_ble_eq_true rfl) d_X5_doIn_8 (c_X2_poolAt C.inj hF) rfl ?_
  refine z_astore_n (lv' := [(2, aR q8.1), (0, aR 9), (1, aR p1)]) C d_X5_doIn_11 (by decide) rfl ?_
  refine z_aload_n (j := 0) C d_X5_doIn_12 rfl ?_
  refine z_ifnull (tgt := 27) C d_X5_doIn_13 (by decide) hf (fun c13 hf => ?_) (fun c13 hf => ?_)
  · exact z_sub [] rfl (t_X5_doIn_27 C hr  _ hf)
  · refine z_aload_n (j := 1) C d_X5_doIn_16 rfl ?_
    refine z_aload_n (j := 2) C d_X5_doIn_17 rfl ?_
    refine zg_X8_pool C hg5_0 tw_320 d_X5_doIn_18 ?_
    obtain ⟨q21, hF, hf⟩ := bd hf
    refine z_callV1 (rest := []) C [aI (gI q8.2 p1 2)] rfl (by decide) rfl rfl k_X5_isLocked tw_825 ⟨by decide, by decide⟩ (Nat.le_of_ble_eq_true rfl) d_X5_doIn_21 (c_X5_isLocked C.inj hF) rfl ?_
    refine z_if_eq (tgt := 29) C d_X5_doIn_24 (by decide) hf (fun c24 hf => ?_) (fun c24 hf => ?_)
    · refine z_aload_n (j := 1) C d_X5_doIn_29 rfl ?_
      refine zg_X5_market C rfl tw_384 d_X5_doIn_30 ?_
      refine z_aload_n (j := 1) C d_X5_doIn_33 rfl ?_
      refine zg_X5_person C rfl tw_387 d_X5_doIn_34 ?_
      refine z_aload_n (j := 0) C d_X5_doIn_37 rfl ?_
      refine z_aload_n (j := 2) C d_X5_doIn_38 rfl ?_
      refine zg_X8_side C hg5_0 tw_323 d_X5_doIn_39 ?_
      obtain ⟨hg42_1, hf⟩ := gd hf
      obtain ⟨q42, hF, hf⟩ := bd hf
      refine z_callV1 (rest := [aI (gI q21.2 9 5), aR 78]) C [aI (gI q21.2 p1 3)] hg42_1 (by decide) rfl rfl k_X4_thingOn tw_788 ⟨by decide, by decide⟩ (Nat.le_of_ble_eq_true rfl) d_X5_doIn_42 (c_X4_thingOn C.inj hF) rfl ?_
      obtain ⟨q45, hF, hf⟩ := bd hf
      refine z_callV1 (rest := []) C [aI (gI q21.2 9 5), aI q42.1] rfl (by decide) rfl rfl k_X2_purseOf tw_792 ⟨by decide, by decide⟩ (Nat.le_of_ble_eq_true rfl) d_X5_doIn_45 (c_X2_purseOf C.inj hF) rfl ?_
      refine z_istore_n (lv' := [(3, aI q45.1), (2, aR q8.1), (0, aR 9), (1, aR p1)]) C d_X5_doIn_48 (by decide) rfl ?_
      refine z_aload_n (j := 2) C d_X5_doIn_49 rfl ?_
      refine z_aload_n (j := 3) C d_X5_doIn_50 rfl ?_
      refine z_iload_n (j := 0) C d_X5_doIn_51 rfl ?_
      obtain ⟨q52, hF, hf⟩ := bd hf
      refine z_callV1 (rest := []) C [aR p1, aI q45.1] rfl (by decide) rfl rfl k_X5_muchOf tw_829 ⟨by decide, by decide⟩ (Nat.le_of_ble_eq_true rfl) d_X5_doIn_52 (c_X5_muchOf C.inj hF) rfl ?_
      refine z_lstore (lv' := [(4, aJ q52.1), (3, aI q45.1), (2, aR q8.1), (0, aR 9), (1, aR p1)]) C d_X5_doIn_55 (by decide) rfl ?_
      refine z_lload (j := 0) C d_X5_doIn_57 rfl ?_
      refine z_lconst (v := 1) C d_X5_doIn_59 (by decide) ?_
      refine z_llt (tgt := 72) C d_X5_doIn_60 d_X5_doIn_61 (by decide) hf (fun c60 hf => ?_) (fun c60 hf => ?_)
      · exact z_sub [] rfl (t_X5_doIn_72 C hr  _ hf)
      · refine z_lload (j := 0) C d_X5_doIn_64 rfl ?_
        refine z_iload_n (j := 1) C d_X5_doIn_66 rfl ?_
        refine z_i2l C d_X5_doIn_67 ?_
        refine z_lle (tgt := 74) C d_X5_doIn_68 d_X5_doIn_69 (by decide) hf (fun c68 hf => ?_) (fun c68 hf => ?_)
        · refine z_aload_n (j := 3) C d_X5_doIn_74 rfl ?_
          refine zg_X5_trade C rfl tw_386 d_X5_doIn_75 ?_
          refine z_aload_n (j := 3) C d_X5_doIn_78 rfl ?_
          refine zg_X5_market C rfl tw_384 d_X5_doIn_79 ?_
          refine z_aload_n (j := 3) C d_X5_doIn_82 rfl ?_
          refine zg_X5_person C rfl tw_387 d_X5_doIn_83 ?_
          refine z_aload_n (j := 4) C d_X5_doIn_86 rfl ?_
          refine zg_X8_pool C hg5_0 tw_320 d_X5_doIn_87 ?_
          refine z_aload_n (j := 4) C d_X5_doIn_90 rfl ?_
          refine zg_X8_side C hg5_0 tw_323 d_X5_doIn_91 ?_
          refine z_lload (j := 0) C d_X5_doIn_94 rfl ?_
          refine z_aload_n (j := 4) C d_X5_doIn_96 rfl ?_
          refine zg_X8_side C hg5_0 tw_323 d_X5_doIn_97 ?_
          obtain ⟨q100, hF, hf⟩ := bd hf
          refine z_callSN1 (rest := [aJ q52.1, aI (gI q52.2 p1 3), aI (gI q52.2 p1 2), aI (gI q52.2 9 5), aR 78, aR 4]) C [aI (gI q52.2 p1 3)] k_X11_lastTick (nw_3) ⟨by decide, by decide⟩ (Nat.le_of_ble_eq_true rfl) d_X5_doIn_100 (c_X11_lastTick C.inj hF) rfl ?_
          refine z_iconst (v := 1) C d_X5_doIn_103 (by decide) ?_
          obtain ⟨q104, hF, hf⟩ := bd hf
          refine z_callV0 (rest := []) C [aR 78, aI (gI q52.2 9 5), aI (gI q52.2 p1 2), aI (gI q52.2 p1 3), aJ q52.1, aI q100.1, aI 1] rfl (by decide) rfl rfl k_X10_pour tw_836 ⟨by decide, by decide⟩ (Nat.le_of_ble_eq_true rfl) d_X5_doIn_104 (c_X10_pour C.inj hF) rfl ?_
          refine z_aload_n (j := 3) C d_X5_doIn_107 rfl ?_
          refine z_aload_n (j := 3) C d_X5_doIn_108 rfl ?_
          refine zg_X5_trade C rfl tw_386 d_X5_doIn_109 ?_
          refine zg_X10_gave C rfl tw_253 d_X5_doIn_112 ?_
          refine zp_X5_got C rfl tw_390 d_X5_doIn_115 ?_
          refine z_iconst (v := 1) C d_X5_doIn_118 (by decide) ?_
          exact r_i C hr (by decide) d_X5_doIn_119 hf
        · exact z_sub [] rfl (t_X5_doIn_72 C hr  _ hf)
    · exact z_sub [] rfl (t_X5_doIn_27 C hr  _ hf)
theorem d_X10_drainStep_0 : decode cX10_drainStep 0 = .ok (.aload_n 0, 1) := by decide +kernel
theorem d_X10_drainStep_1 : decode cX10_drainStep 1 = .ok (.iload_n 1, 1) := by decide +kernel
theorem d_X10_drainStep_2 : decode cX10_drainStep 2 = .ok (.invokevirtual 100, 3) := by decide +kernel
theorem d_X10_drainStep_5 : decode cX10_drainStep 5 = .ok (.istore_n 2, 1) := by decide +kernel
theorem d_X10_drainStep_6 : decode cX10_drainStep 6 = .ok (.iload_n 2, 1) := by decide +kernel
theorem d_X10_drainStep_7 : decode cX10_drainStep 7 = .ok (.invokestatic 103, 3) := by decide +kernel
theorem d_X10_drainStep_10 : decode cX10_drainStep 10 = .ok (.istore_n 3, 1) := by decide +kernel
theorem d_X10_drainStep_11 : decode cX10_drainStep 11 = .ok (.aload_n 0, 1) := by decide +kernel
theorem d_X10_drainStep_12 : decode cX10_drainStep 12 = .ok (.getfield 92, 3) := by decide +kernel
theorem d_X10_drainStep_15 : decode cX10_drainStep 15 = .ok (.istore 4, 2) := by decide +kernel
theorem d_X10_drainStep_17 : decode cX10_drainStep 17 = .ok (.aload_n 0, 1) := by decide +kernel
theorem d_X10_drainStep_18 : decode cX10_drainStep 18 = .ok (.getfield 40, 3) := by decide +kernel
theorem d_X10_drainStep_21 : decode cX10_drainStep 21 = .ok (.aload_n 0, 1) := by decide +kernel
theorem d_X10_drainStep_22 : decode cX10_drainStep 22 = .ok (.getfield 44, 3) := by decide +kernel
theorem d_X10_drainStep_25 : decode cX10_drainStep 25 = .ok (.aload_n 0, 1) := by decide +kernel
theorem d_X10_drainStep_26 : decode cX10_drainStep 26 = .ok (.getfield 19, 3) := by decide +kernel
theorem d_X10_drainStep_29 : decode cX10_drainStep 29 = .ok (.invokevirtual 111, 3) := by decide +kernel
theorem d_X10_drainStep_32 : decode cX10_drainStep 32 = .ok (.lstore 5, 2) := by decide +kernel
theorem d_X10_drainStep_34 : decode cX10_drainStep 34 = .ok (.aload_n 0, 1) := by decide +kernel
theorem d_X10_drainStep_35 : decode cX10_drainStep 35 = .ok (.getfield 15, 3) := by decide +kernel
theorem d_X10_drainStep_38 : decode cX10_drainStep 38 = .ok (.ifCond .eq 7, 3) := by decide +kernel
theorem d_X10_drainStep_41 : decode cX10_drainStep 41 = .ok (.iconst 1, 1) := by decide +kernel
theorem d_X10_drainStep_42 : decode cX10_drainStep 42 = .ok (.goto 4, 3) := by decide +kernel
theorem d_X10_drainStep_45 : decode cX10_drainStep 45 = .ok (.iconst 0, 1) := by decide +kernel
theorem d_X10_drainStep_46 : decode cX10_drainStep 46 = .ok (.lload 5, 2) := by decide +kernel
theorem d_X10_drainStep_48 : decode cX10_drainStep 48 = .ok (.aload_n 0, 1) := by decide +kernel
theorem d_X10_drainStep_49 : decode cX10_drainStep 49 = .ok (.getfield 92, 3) := by decide +kernel
theorem d_X10_drainStep_52 : decode cX10_drainStep 52 = .ok (.i2l, 1) := by decide +kernel
theorem d_X10_drainStep_53 : decode cX10_drainStep 53 = .ok (.iload_n 3, 1) := by decide +kernel
theorem d_X10_drainStep_54 : decode cX10_drainStep 54 = .ok (.i2l, 1) := by decide +kernel
theorem d_X10_drainStep_55 : decode cX10_drainStep 55 = .ok (.iconst 0, 1) := by decide +kernel
theorem d_X10_drainStep_56 : decode cX10_drainStep 56 = .ok (.invokestatic 115, 3) := by decide +kernel
theorem d_X10_drainStep_59 : decode cX10_drainStep 59 = .ok (.lstore 7, 2) := by decide +kernel
theorem d_X10_drainStep_61 : decode cX10_drainStep 61 = .ok (.aload_n 0, 1) := by decide +kernel
theorem d_X10_drainStep_62 : decode cX10_drainStep 62 = .ok (.getfield 26, 3) := by decide +kernel
theorem d_X10_drainStep_65 : decode cX10_drainStep 65 = .ok (.lload 7, 2) := by decide +kernel
theorem d_X10_drainStep_67 : decode cX10_drainStep 67 = .ok (.lcmp, 1) := by decide +kernel
theorem d_X10_drainStep_68 : decode cX10_drainStep 68 = .ok (.ifCond .lt 7, 3) := by decide +kernel
theorem d_X10_drainStep_71 : decode cX10_drainStep 71 = .ok (.iconst 1, 1) := by decide +kernel
theorem d_X10_drainStep_72 : decode cX10_drainStep 72 = .ok (.goto 4, 3) := by decide +kernel
theorem d_X10_drainStep_75 : decode cX10_drainStep 75 = .ok (.iconst 0, 1) := by decide +kernel
theorem d_X10_drainStep_76 : decode cX10_drainStep 76 = .ok (.istore 9, 2) := by decide +kernel
theorem d_X10_drainStep_78 : decode cX10_drainStep 78 = .ok (.iload 9, 2) := by decide +kernel
theorem d_X10_drainStep_80 : decode cX10_drainStep 80 = .ok (.ifCond .eq 8, 3) := by decide +kernel
theorem d_X10_drainStep_83 : decode cX10_drainStep 83 = .ok (.lload 7, 2) := by decide +kernel
theorem d_X10_drainStep_85 : decode cX10_drainStep 85 = .ok (.goto 7, 3) := by decide +kernel
theorem d_X10_drainStep_88 : decode cX10_drainStep 88 = .ok (.aload_n 0, 1) := by decide +kernel
theorem d_X10_drainStep_89 : decode cX10_drainStep 89 = .ok (.getfield 26, 3) := by decide +kernel
theorem d_X10_drainStep_92 : decode cX10_drainStep 92 = .ok (.lstore 10, 2) := by decide +kernel
theorem d_X10_drainStep_94 : decode cX10_drainStep 94 = .ok (.aload_n 0, 1) := by decide +kernel
theorem d_X10_drainStep_95 : decode cX10_drainStep 95 = .ok (.iload 9, 2) := by decide +kernel
theorem d_X10_drainStep_97 : decode cX10_drainStep 97 = .ok (.ifCond .eq 7, 3) := by decide +kernel
theorem d_X10_drainStep_100 : decode cX10_drainStep 100 = .ok (.iload_n 3, 1) := by decide +kernel
theorem d_X10_drainStep_101 : decode cX10_drainStep 101 = .ok (.goto 21, 3) := by decide +kernel
theorem d_X10_drainStep_104 : decode cX10_drainStep 104 = .ok (.aload_n 0, 1) := by decide +kernel
theorem d_X10_drainStep_105 : decode cX10_drainStep 105 = .ok (.getfield 15, 3) := by decide +kernel
theorem d_X10_drainStep_108 : decode cX10_drainStep 108 = .ok (.lload 5, 2) := by decide +kernel
theorem d_X10_drainStep_110 : decode cX10_drainStep 110 = .ok (.aload_n 0, 1) := by decide +kernel
theorem d_X10_drainStep_111 : decode cX10_drainStep 111 = .ok (.getfield 92, 3) := by decide +kernel
theorem d_X10_drainStep_114 : decode cX10_drainStep 114 = .ok (.i2l, 1) := by decide +kernel
theorem d_X10_drainStep_115 : decode cX10_drainStep 115 = .ok (.aload_n 0, 1) := by decide +kernel
theorem d_X10_drainStep_116 : decode cX10_drainStep 116 = .ok (.getfield 26, 3) := by decide +kernel
theorem d_X10_drainStep_119 : decode cX10_drainStep 119 = .ok (.invokestatic 137, 3) := by decide +kernel
theorem d_X10_drainStep_122 : decode cX10_drainStep 122 = .ok (.putfield 92, 3) := by decide +kernel
theorem d_X10_drainStep_125 : decode cX10_drainStep 125 = .ok (.aload_n 0, 1) := by decide +kernel
theorem d_X10_drainStep_126 : decode cX10_drainStep 126 = .ok (.dup, 1) := by decide +kernel
theorem d_X10_drainStep_127 : decode cX10_drainStep 127 = .ok (.getfield 74, 3) := by decide +kernel
theorem d_X10_drainStep_130 : decode cX10_drainStep 130 = .ok (.lload 10, 2) := by decide +kernel
theorem d_X10_drainStep_132 : decode cX10_drainStep 132 = .ok (.ladd, 1) := by decide +kernel
theorem d_X10_drainStep_133 : decode cX10_drainStep 133 = .ok (.putfield 74, 3) := by decide +kernel
theorem d_X10_drainStep_136 : decode cX10_drainStep 136 = .ok (.aload_n 0, 1) := by decide +kernel
theorem d_X10_drainStep_137 : decode cX10_drainStep 137 = .ok (.dup, 1) := by decide +kernel
theorem d_X10_drainStep_138 : decode cX10_drainStep 138 = .ok (.getfield 26, 3) := by decide +kernel
theorem d_X10_drainStep_141 : decode cX10_drainStep 141 = .ok (.lload 10, 2) := by decide +kernel
theorem d_X10_drainStep_143 : decode cX10_drainStep 143 = .ok (.lsub, 1) := by decide +kernel
theorem d_X10_drainStep_144 : decode cX10_drainStep 144 = .ok (.putfield 26, 3) := by decide +kernel
theorem d_X10_drainStep_147 : decode cX10_drainStep 147 = .ok (.aload_n 0, 1) := by decide +kernel
theorem d_X10_drainStep_148 : decode cX10_drainStep 148 = .ok (.getfield 15, 3) := by decide +kernel
theorem d_X10_drainStep_151 : decode cX10_drainStep 151 = .ok (.ifCond .ne 7, 3) := by decide +kernel
theorem d_X10_drainStep_154 : decode cX10_drainStep 154 = .ok (.iconst 1, 1) := by decide +kernel
theorem d_X10_drainStep_155 : decode cX10_drainStep 155 = .ok (.goto 4, 3) := by decide +kernel
theorem d_X10_drainStep_158 : decode cX10_drainStep 158 = .ok (.iconst 0, 1) := by decide +kernel
theorem d_X10_drainStep_159 : decode cX10_drainStep 159 = .ok (.lload 5, 2) := by decide +kernel
theorem d_X10_drainStep_161 : decode cX10_drainStep 161 = .ok (.iload 4, 2) := by decide +kernel
theorem d_X10_drainStep_163 : decode cX10_drainStep 163 = .ok (.i2l, 1) := by decide +kernel
theorem d_X10_drainStep_164 : decode cX10_drainStep 164 = .ok (.aload_n 0, 1) := by decide +kernel
theorem d_X10_drainStep_165 : decode cX10_drainStep 165 = .ok (.getfield 92, 3) := by decide +kernel
theorem d_X10_drainStep_168 : decode cX10_drainStep 168 = .ok (.i2l, 1) := by decide +kernel
theorem d_X10_drainStep_169 : decode cX10_drainStep 169 = .ok (.iconst 1, 1) := by decide +kernel
theorem d_X10_drainStep_170 : decode cX10_drainStep 170 = .ok (.invokestatic 115, 3) := by decide +kernel
theorem d_X10_drainStep_173 : decode cX10_drainStep 173 = .ok (.lstore 12, 2) := by decide +kernel
theorem d_X10_drainStep_175 : decode cX10_drainStep 175 = .ok (.aload_n 0, 1) := by decide +kernel
theorem d_X10_drainStep_176 : decode cX10_drainStep 176 = .ok (.lload 12, 2) := by decide +kernel
theorem d_X10_drainStep_178 : decode cX10_drainStep 178 = .ok (.lload 12, 2) := by decide +kernel
theorem d_X10_drainStep_180 : decode cX10_drainStep 180 = .ok (.aload_n 0, 1) := by decide +kernel
theorem d_X10_drainStep_181 : decode cX10_drainStep 181 = .ok (.getfield 67, 3) := by decide +kernel
theorem d_X10_drainStep_184 : decode cX10_drainStep 184 = .ok (.getfield 108, 3) := by decide +kernel
theorem d_X10_drainStep_187 : decode cX10_drainStep 187 = .ok (.i2l, 1) := by decide +kernel
theorem d_X10_drainStep_188 : decode cX10_drainStep 188 = .ok (.lmul, 1) := by decide +kernel
theorem d_X10_drainStep_189 : decode cX10_drainStep 189 = .ok (.sipush 1000, 3) := by decide +kernel
theorem d_X10_drainStep_192 : decode cX10_drainStep 192 = .ok (.aload_n 0, 1) := by decide +kernel
theorem d_X10_drainStep_193 : decode cX10_drainStep 193 = .ok (.getfield 67, 3) := by decide +kernel
theorem d_X10_drainStep_196 : decode cX10_drainStep 196 = .ok (.getfield 108, 3) := by decide +kernel
theorem d_X10_drainStep_199 : decode cX10_drainStep 199 = .ok (.isub, 1) := by decide +kernel
theorem d_X10_drainStep_200 : decode cX10_drainStep 200 = .ok (.i2l, 1) := by decide +kernel
theorem d_X10_drainStep_201 : decode cX10_drainStep 201 = .ok (.invokestatic 121, 3) := by decide +kernel
theorem d_X10_drainStep_204 : decode cX10_drainStep 204 = .ok (.invokevirtual 129, 3) := by decide +kernel
theorem d_X10_drainStep_207 : decode cX10_drainStep 207 = .ok (.aload_n 0, 1) := by decide +kernel
theorem d_X10_drainStep_208 : decode cX10_drainStep 208 = .ok (.iload_n 2, 1) := by decide +kernel
theorem d_X10_drainStep_209 : decode cX10_drainStep 209 = .ok (.iload_n 2, 1) := by decide +kernel
theorem d_X10_drainStep_210 : decode cX10_drainStep 210 = .ok (.iload_n 1, 1) := by decide +kernel
theorem d_X10_drainStep_211 : decode cX10_drainStep 211 = .ok (.if_icmp .ne 7, 3) := by decide +kernel
theorem d_X10_drainStep_214 : decode cX10_drainStep 214 = .ok (.iconst 1, 1) := by decide +kernel
theorem d_X10_drainStep_215 : decode cX10_drainStep 215 = .ok (.goto 4, 3) := by decide +kernel
theorem d_X10_drainStep_218 : decode cX10_drainStep 218 = .ok (.iconst 0, 1) := by decide +kernel
theorem d_X10_drainStep_219 : decode cX10_drainStep 219 = .ok (.iload 9, 2) := by decide +kernel
theorem d_X10_drainStep_221 : decode cX10_drainStep 221 = .ok (.invokevirtual 133, 3) := by decide +kernel
theorem d_X10_drainStep_224 : decode cX10_drainStep 224 = .ok (.return_, 1) := by decide +kernel
def f_X10_drainStep_219 (v9 : Int32) (s0 : Int32) (s1 : Int32) (S : Mem) : Option (Unit × Mem) := ((f_X10_arrive s1 s0 v9 S).bind fun q221 => (some ((), q221.2)))
set_option maxRecDepth 20000 in
theorem t_X10_drainStep_219 {X : MC} {Γ : GG} (C : CX X Γ cX10_drainStep 14 "TickPools$Trade" 3 83) (hr : X.2.2.2.2.2.2.2.2.1.sig.returnType = none) {q : Unit × Mem} (v9 : Int32) (s0 : Int32) (s1 : Int32) (S : Mem) (hf : f_X10_drainStep_219 v9 s0 s1 S = some q) : ZZ X Γ 14 (QQ X Γ none q.2) S 219 [(9, aI v9)] [aI s0, aI s1, aR 4] := by
  unfold f_X10_drainStep_219 at hf
  refine z_iload (j := 0) C d_X10_drainStep_219 rfl ?_
  obtain ⟨q221, hF, hf⟩ := bd hf
  refine z_callV0 (rest := []) C [aI s1, aI s0, aI v9] rfl (by decide) rfl rfl k_X10_arrive tw_886 ⟨by decide, by decide⟩ (Nat.le_of_ble_eq_true rfl) d_X10_drainStep_221 (c_X10_arrive C.inj hF) rfl ?_
  exact r_v C hr d_X10_drainStep_224 hf
def f_X10_drainStep_159 (v1 : Int32) (v2 : Int32) (v4 : Int32) (v5 : Int64) (v9 : Int32) (s0 : Int32) (S : Mem) : Option (Unit × Mem) := ((f_X0_between s0 v5 (v4.toInt64) (((gI S 4 5) : Int32).toInt64) 1 S).bind fun q170 => (if kd (gR q170.2 4 1) = (3, 12) then ((f_X0_upwards (q170.1 * (((gI q170.2 (gR q170.2 4 1) 2) : Int32).toInt64)) (((1000 - (gI q170.2 (gR q170.2 4 1) 2)) : Int32).toInt64) q170.2).bind fun q201 => ((f_X10_takeIn q170.1 q201.1 q201.2).bind fun q204 => (if v2 = v1 then (f_X10_drainStep_219  v9 1 v2 q204.2) else (f_X10_drainStep_219  v9 0 v2 q204.2)))) else none))
set_option maxRecDepth 20000 in
theorem t_X10_drainStep_159 {X : MC} {Γ : GG} (C : CX X Γ cX10_drainStep 14 "TickPools$Trade" 3 83) (hr : X.2.2.2.2.2.2.2.2.1.sig.returnType = none) {q : Unit × Mem} (v1 : Int32) (v2 : Int32) (v4 : Int32) (v5 : Int64) (v9 : Int32) (s0 : Int32) (S : Mem) (hf : f_X10_drainStep_159 v1 v2 v4 v5 v9 s0 S = some q) : ZZ X Γ 14 (QQ X Γ none q.2) S 159 [(0, aR 4), (1, aI v1), (2, aI v2), (4, aI v4), (5, aJ v5), (9, aI v9)] [aI s0] := by
  unfold f_X10_drainStep_159 at hf
  refine z_lload (j := 4) C d_X10_drainStep_159 rfl ?_
  refine z_iload (j := 3) C d_X10_drainStep_161 rfl ?_
  refine z_i2l C d_X10_drainStep_163 ?_
  refine z_aload_n (j := 0) C d_X10_drainStep_164 rfl ?_
  refine zg_X10_root C rfl tw_241 d_X10_drainStep_165 ?_
  refine z_i2l C d_X10_drainStep_168 ?_
  refine z_iconst (v := 1) C d_X10_drainStep_169 (by decide) ?_
  obtain ⟨q170, hF, hf⟩ := bd hf
  refine z_callS1 (rest := []) C [aI s0, aJ v5, aJ (v4.toInt64), aJ (((gI S 4 5) : Int32).toInt64), aI 1] k_X0_between tw_871 ⟨by decide, by decide⟩ (Nat.le_of_ble_eq_true rfl) d_X10_drainStep_170 (c_X0_between C.inj hF) rfl ?_
  refine z_lstore (lv' := [(12, aJ q170.1), (0, aR 4), (1, aI v1), (2, aI v2), (4, aI v4), (5, aJ v5), (9, aI v9)]) C d_X10_drainStep_173 (by decide) rfl ?_
  refine z_aload_n (j := 1) C d_X10_drainStep_175 rfl ?_
  refine z_lload (j := 0) C d_X10_drainStep_176 rfl ?_
  refine z_lload (j := 0) C d_X10_drainStep_178 rfl ?_
  refine z_aload_n (j := 1) C d_X10_drainStep_180 rfl ?_
  refine zg_X10_pool C rfl tw_237 d_X10_drainStep_181 ?_
  obtain ⟨hg184_0, hf⟩ := gd hf
  refine zg_X4_fee C hg184_0 tw_83 d_X10_drainStep_184 ?_
  refine z_i2l C d_X10_drainStep_187 ?_
  refine z_lmul C d_X10_drainStep_188 ?_
  refine z_sipush (v := 1000) C d_X10_drainStep_189 (by decide) ?_
  refine z_aload_n (j := 1) C d_X10_drainStep_192 rfl ?_
  refine zg_X10_pool C rfl tw_237 d_X10_drainStep_193 ?_
  refine zg_X4_fee C hg184_0 tw_83 d_X10_drainStep_196 ?_
  refine z_isub C d_X10_drainStep_199 ?_
  refine z_i2l C d_X10_drainStep_200 ?_
  obtain ⟨q201, hF, hf⟩ := bd hf
  refine z_callS1 (rest := [aJ q170.1, aR 4]) C [aJ (q170.1 * (((gI q170.2 (gR q170.2 4 1) 2) : Int32).toInt64)), aJ (((1000 - (gI q170.2 (gR q170.2 4 1) 2)) : Int32).toInt64)] k_X0_upwards tw_876 ⟨by decide, by decide⟩ (Nat.le_of_ble_eq_true rfl) d_X10_drainStep_201 (c_X0_upwards C.inj hF) rfl ?_
  obtain ⟨q204, hF, hf⟩ := bd hf
  refine z_callV0 (rest := []) C [aJ q170.1, aJ q201.1] rfl (by decide) rfl rfl k_X10_takeIn tw_881 ⟨by decide, by decide⟩ (Nat.le_of_ble_eq_true rfl) d_X10_drainStep_204 (c_X10_takeIn C.inj hF) rfl ?_
  refine z_aload_n (j := 1) C d_X10_drainStep_207 rfl ?_
  refine z_iload_n (j := 3) C d_X10_drainStep_208 rfl ?_
  refine z_iload_n (j := 3) C d_X10_drainStep_209 rfl ?_
  refine z_iload_n (j := 2) C d_X10_drainStep_210 rfl ?_
  refine z_icmp_ne (tgt := 218) C d_X10_drainStep_211 (by decide) hf (fun c211 hf => ?_) (fun c211 hf => ?_)
  · refine z_iconst (v := 0) C d_X10_drainStep_218 (by decide) ?_
    exact z_sub [6] rfl (t_X10_drainStep_219 C hr  _ _ _ _ hf)
  · refine z_iconst (v := 1) C d_X10_drainStep_214 (by decide) ?_
    refine z_goto (tgt := 219) C d_X10_drainStep_215 (by decide) ?_
    exact z_sub [6] rfl (t_X10_drainStep_219 C hr  _ _ _ _ hf)
def f_X10_drainStep_147 (v1 : Int32) (v2 : Int32) (v4 : Int32) (v5 : Int64) (v9 : Int32) (S : Mem) : Option (Unit × Mem) := (if (gI S 4 3) = 0 then (f_X10_drainStep_159  v1 v2 v4 v5 v9 1 S) else (f_X10_drainStep_159  v1 v2 v4 v5 v9 0 S))
set_option maxRecDepth 20000 in
theorem t_X10_drainStep_147 {X : MC} {Γ : GG} (C : CX X Γ cX10_drainStep 14 "TickPools$Trade" 3 83) (hr : X.2.2.2.2.2.2.2.2.1.sig.returnType = none) {q : Unit × Mem} (v1 : Int32) (v2 : Int32) (v4 : Int32) (v5 : Int64) (v9 : Int32) (S : Mem) (hf : f_X10_drainStep_147 v1 v2 v4 v5 v9 S = some q) : ZZ X Γ 14 (QQ X Γ none q.2) S 147 [(0, aR 4), (1, aI v1), (2, aI v2), (4, aI v4), (5, aJ v5), (9, aI v9)] [] := by
  unfold f_X10_drainStep_147 at hf
  refine z_aload_n (j := 0) C d_X10_drainStep_147 rfl ?_
  refine zg_X10_side C rfl tw_239 d_X10_drainStep_148 ?_
  refine z_if_ne (tgt := 158) C d_X10_drainStep_151 (by decide) hf (fun c151 hf => ?_) (fun c151 hf => ?_)
  · refine z_iconst (v := 0) C d_X10_drainStep_158 (by decide) ?_
    exact z_sub [0, 1, 2, 3, 4, 5] rfl (t_X10_drainStep_159 C hr  _ _ _ _ _ _ _ hf)
  · refine z_iconst (v := 1) C d_X10_drainStep_154 (by decide) ?_
    refine z_goto (tgt := 159) C d_X10_drainStep_155 (by decide) ?_
    exact z_sub [0, 1, 2, 3, 4, 5] rfl (t_X10_drainStep_159 C hr  _ _ _ _ _ _ _ hf)
def f_X10_drainStep_122 (v1 : Int32) (v2 : Int32) (v4 : Int32) (v5 : Int64) (v9 : Int32) (v10 : Int64) (s0 : Int32) (S : Mem) : Option (Unit × Mem) := (f_X10_drainStep_147  v1 v2 v4 v5 v9 (sL (sL (sI S 4 5 s0) 4 11 ((gL (sI S 4 5 s0) 4 11) + v10)) 4 10 ((gL (sL (sI S 4 5 s0) 4 11 ((gL (sI S 4 5 s0) 4 11) + v10)) 4 10) - v10)))
set_option maxRecDepth 20000 in
theorem t_X10_drainStep_122 {X : MC} {Γ : GG} (C : CX X Γ cX10_drainStep 14 "TickPools$Trade" 3 83) (hr : X.2.2.2.2.2.2.2.2.1.sig.returnType = none) {q : Unit × Mem} (v1 : Int32) (v2 : Int32) (v4 : Int32) (v5 : Int64) (v9 : Int32) (v10 : Int64) (s0 : Int32) (S : Mem) (hf : f_X10_drainStep_122 v1 v2 v4 v5 v9 v10 s0 S = some q) : ZZ X Γ 14 (QQ X Γ none q.2) S 122 [(0, aR 4), (1, aI v1), (2, aI v2), (4, aI v4), (5, aJ v5), (9, aI v9), (10, aJ v10)] [aI s0, aR 4] := by
  unfold f_X10_drainStep_122 at hf
  refine zp_X10_root C rfl tw_241 d_X10_drainStep_122 ?_
  refine z_aload_n (j := 0) C d_X10_drainStep_125 rfl ?_
  refine z_dup C d_X10_drainStep_126 rfl ?_
  refine zg_X10_gave C rfl tw_251 d_X10_drainStep_127 ?_
  refine z_lload (j := 6) C d_X10_drainStep_130 rfl ?_
  refine z_ladd C d_X10_drainStep_132 ?_
  refine zp_X10_gave C rfl tw_251 d_X10_drainStep_133 ?_
  refine z_aload_n (j := 0) C d_X10_drainStep_136 rfl ?_
  refine z_dup C d_X10_drainStep_137 rfl ?_
  refine zg_X10_left C rfl tw_248 d_X10_drainStep_138 ?_
  refine z_lload (j := 6) C d_X10_drainStep_141 rfl ?_
  refine z_lsub C d_X10_drainStep_143 ?_
  refine zp_X10_left C rfl tw_248 d_X10_drainStep_144 ?_
  exact z_sub [0, 1, 2, 3, 4, 5] rfl (t_X10_drainStep_147 C hr  _ _ _ _ _ _ hf)
def f_X10_drainStep_92 (v1 : Int32) (v2 : Int32) (v3 : Int32) (v4 : Int32) (v5 : Int64) (v9 : Int32) (s0 : Int64) (S : Mem) : Option (Unit × Mem) := (if v9 = 0 then ((f_X0_rootBehindOut (gI S 4 3) v5 (((gI S 4 5) : Int32).toInt64) (gL S 4 10) S).bind fun q119 => (f_X10_drainStep_122  v1 v2 v4 v5 v9 s0 q119.1 q119.2)) else (f_X10_drainStep_122  v1 v2 v4 v5 v9 s0 v3 S))
set_option maxRecDepth 20000 in
theorem t_X10_drainStep_92 {X : MC} {Γ : GG} (C : CX X Γ cX10_drainStep 14 "TickPools$Trade" 3 83) (hr : X.2.2.2.2.2.2.2.2.1.sig.returnType = none) {q : Unit × Mem} (v1 : Int32) (v2 : Int32) (v3 : Int32) (v4 : Int32) (v5 : Int64) (v9 : Int32) (s0 : Int64) (S : Mem) (hf : f_X10_drainStep_92 v1 v2 v3 v4 v5 v9 s0 S = some q) : ZZ X Γ 14 (QQ X Γ none q.2) S 92 [(0, aR 4), (1, aI v1), (2, aI v2), (3, aI v3), (4, aI v4), (5, aJ v5), (9, aI v9)] [aJ s0] := by
  unfold f_X10_drainStep_92 at hf
  refine z_lstore (lv' := [(10, aJ s0), (0, aR 4), (1, aI v1), (2, aI v2), (3, aI v3), (4, aI v4), (5, aJ v5), (9, aI v9)]) C d_X10_drainStep_92 (by decide) rfl ?_
  refine z_aload_n (j := 1) C d_X10_drainStep_94 rfl ?_
  refine z_iload (j := 7) C d_X10_drainStep_95 rfl ?_
  refine z_if_eq (tgt := 104) C d_X10_drainStep_97 (by decide) hf (fun c97 hf => ?_) (fun c97 hf => ?_)
  · refine z_aload_n (j := 1) C d_X10_drainStep_104 rfl ?_
    refine zg_X10_side C rfl tw_239 d_X10_drainStep_105 ?_
    refine z_lload (j := 6) C d_X10_drainStep_108 rfl ?_
    refine z_aload_n (j := 1) C d_X10_drainStep_110 rfl ?_
    refine zg_X10_root C rfl tw_241 d_X10_drainStep_111 ?_
    refine z_i2l C d_X10_drainStep_114 ?_
    refine z_aload_n (j := 1) C d_X10_drainStep_115 rfl ?_
    refine zg_X10_left C rfl tw_248 d_X10_drainStep_116 ?_
    obtain ⟨q119, hF, hf⟩ := bd hf
    refine z_callS1 (rest := [aR 4]) C [aI (gI S 4 3), aJ v5, aJ (((gI S 4 5) : Int32).toInt64), aJ (gL S 4 10)] k_X0_rootBehindOut tw_951 ⟨by decide, by decide⟩ (Nat.le_of_ble_eq_true rfl) d_X10_drainStep_119 (c_X0_rootBehindOut C.inj hF) rfl ?_
    exact z_sub [1, 2, 3, 5, 6, 7, 0] rfl (t_X10_drainStep_122 C hr  _ _ _ _ _ _ _ _ hf)
  · refine z_iload_n (j := 4) C d_X10_drainStep_100 rfl ?_
    refine z_goto (tgt := 122) C d_X10_drainStep_101 (by decide) ?_
    exact z_sub [1, 2, 3, 5, 6, 7, 0] rfl (t_X10_drainStep_122 C hr  _ _ _ _ _ _ _ _ hf)
def f_X10_drainStep_76 (v1 : Int32) (v2 : Int32) (v3 : Int32) (v4 : Int32) (v5 : Int64) (v7 : Int64) (s0 : Int32) (S : Mem) : Option (Unit × Mem) := (if s0 = 0 then (f_X10_drainStep_92  v1 v2 v3 v4 v5 s0 (gL S 4 10) S) else (f_X10_drainStep_92  v1 v2 v3 v4 v5 s0 v7 S))
set_option maxRecDepth 20000 in
theorem t_X10_drainStep_76 {X : MC} {Γ : GG} (C : CX X Γ cX10_drainStep 14 "TickPools$Trade" 3 83) (hr : X.2.2.2.2.2.2.2.2.1.sig.returnType = none) {q : Unit × Mem} (v1 : Int32) (v2 : Int32) (v3 : Int32) (v4 : Int32) (v5 : Int64) (v7 : Int64) (s0 : Int32) (S : Mem) (hf : f_X10_drainStep_76 v1 v2 v3 v4 v5 v7 s0 S = some q) : ZZ X Γ 14 (QQ X Γ none q.2) S 76 [(0, aR 4), (1, aI v1), (2, aI v2), (3, aI v3), (4, aI v4), (5, aJ v5), (7, aJ v7)] [aI s0] := by
  unfold f_X10_drainStep_76 at hf
  refine z_istore (lv' := [(9, aI s0), (0, aR 4), (1, aI v1), (2, aI v2), (3, aI v3), (4, aI v4), (5, aJ v5), (7, aJ v7)]) C d_X10_drainStep_76 (by decide) rfl ?_
  refine z_iload (j := 0) C d_X10_drainStep_78 rfl ?_
  refine z_if_eq (tgt := 88) C d_X10_drainStep_80 (by decide) hf (fun c80 hf => ?_) (fun c80 hf => ?_)
  · refine z_aload_n (j := 1) C d_X10_drainStep_88 rfl ?_
    refine zg_X10_left C rfl tw_248 d_X10_drainStep_89 ?_
    exact z_sub [1, 2, 3, 4, 5, 6, 0] rfl (t_X10_drainStep_92 C hr  _ _ _ _ _ _ _ _ hf)
  · refine z_lload (j := 7) C d_X10_drainStep_83 rfl ?_
    refine z_goto (tgt := 92) C d_X10_drainStep_85 (by decide) ?_
    exact z_sub [1, 2, 3, 4, 5, 6, 0] rfl (t_X10_drainStep_92 C hr  _ _ _ _ _ _ _ _ hf)
def f_X10_drainStep_46 (v1 : Int32) (v2 : Int32) (v3 : Int32) (v4 : Int32) (v5 : Int64) (s0 : Int32) (S : Mem) : Option (Unit × Mem) := ((f_X0_between s0 v5 (((gI S 4 5) : Int32).toInt64) (v3.toInt64) 0 S).bind fun q56 => (if (gL q56.2 4 10) < q56.1 then (f_X10_drainStep_76  v1 v2 v3 v4 v5 q56.1 0 q56.2) else (f_X10_drainStep_76  v1 v2 v3 v4 v5 q56.1 1 q56.2)))
set_option maxRecDepth 20000 in
theorem t_X10_drainStep_46 {X : MC} {Γ : GG} (C : CX X Γ cX10_drainStep 14 "TickPools$Trade" 3 83) (hr : X.2.2.2.2.2.2.2.2.1.sig.returnType = none) {q : Unit × Mem} (v1 : Int32) (v2 : Int32) (v3 : Int32) (v4 : Int32) (v5 : Int64) (s0 : Int32) (S : Mem) (hf : f_X10_drainStep_46 v1 v2 v3 v4 v5 s0 S = some q) : ZZ X Γ 14 (QQ X Γ none q.2) S 46 [(0, aR 4), (1, aI v1), (2, aI v2), (3, aI v3), (4, aI v4), (5, aJ v5)] [aI s0] := by
  unfold f_X10_drainStep_46 at hf
  refine z_lload (j := 5) C d_X10_drainStep_46 rfl ?_
  refine z_aload_n (j := 0) C d_X10_drainStep_48 rfl ?_
  refine zg_X10_root C rfl tw_241 d_X10_drainStep_49 ?_
  refine z_i2l C d_X10_drainStep_52 ?_
  refine z_iload_n (j := 3) C d_X10_drainStep_53 rfl ?_
  refine z_i2l C d_X10_drainStep_54 ?_
  refine z_iconst (v := 0) C d_X10_drainStep_55 (by decide) ?_
  obtain ⟨q56, hF, hf⟩ := bd hf
  refine z_callS1 (rest := []) C [aI s0, aJ v5, aJ (((gI S 4 5) : Int32).toInt64), aJ (v3.toInt64), aI 0] k_X0_between tw_871 ⟨by decide, by decide⟩ (Nat.le_of_ble_eq_true rfl) d_X10_drainStep_56 (c_X0_between C.inj hF) rfl ?_
  refine z_lstore (lv' := [(7, aJ q56.1), (0, aR 4), (1, aI v1), (2, aI v2), (3, aI v3), (4, aI v4), (5, aJ v5)]) C d_X10_drainStep_59 (by decide) rfl ?_
  refine z_aload_n (j := 1) C d_X10_drainStep_61 rfl ?_
  refine zg_X10_left C rfl tw_248 d_X10_drainStep_62 ?_
  refine z_lload (j := 0) C d_X10_drainStep_65 rfl ?_
  refine z_llt (tgt := 75) C d_X10_drainStep_67 d_X10_drainStep_68 (by decide) hf (fun c67 hf => ?_) (fun c67 hf => ?_)
  · refine z_iconst (v := 0) C d_X10_drainStep_75 (by decide) ?_
    exact z_sub [1, 2, 3, 4, 5, 6, 0] rfl (t_X10_drainStep_76 C hr  _ _ _ _ _ _ _ _ hf)
  · refine z_iconst (v := 1) C d_X10_drainStep_71 (by decide) ?_
    refine z_goto (tgt := 76) C d_X10_drainStep_72 (by decide) ?_
    exact z_sub [1, 2, 3, 4, 5, 6, 0] rfl (t_X10_drainStep_76 C hr  _ _ _ _ _ _ _ _ hf)
def f_X10_drainStep_17 (v1 : Int32) (v2 : Int32) (v3 : Int32) (v4 : Int32) (S : Mem) : Option (Unit × Mem) := (if kd (gR S 4 0) = (1, 9) then ((f_X2_liquidityAt (gR S 4 0) (gI S 4 2) (gI S 4 8) S).bind fun q29 => (if (gI q29.2 4 3) = 0 then (f_X10_drainStep_46  v1 v2 v3 v4 q29.1 0 q29.2) else (f_X10_drainStep_46  v1 v2 v3 v4 q29.1 1 q29.2))) else none)
set_option maxRecDepth 20000 in
theorem t_X10_drainStep_17 {X : MC} {Γ : GG} (C : CX X Γ cX10_drainStep 14 "TickPools$Trade" 3 83) (hr : X.2.2.2.2.2.2.2.2.1.sig.returnType = none) {q : Unit × Mem} (v1 : Int32) (v2 : Int32) (v3 : Int32) (v4 : Int32) (S : Mem) (hf : f_X10_drainStep_17 v1 v2 v3 v4 S = some q) : ZZ X Γ 14 (QQ X Γ none q.2) S 17 [(0, aR 4), (1, aI v1), (2, aI v2), (3, aI v3), (4, aI v4)] [] := by
  unfold f_X10_drainStep_17 at hf
  refine z_aload_n (j := 0) C d_X10_drainStep_17 rfl ?_
  refine zg_X10_market C rfl tw_236 d_X10_drainStep_18 ?_
  refine z_aload_n (j := 0) C d_X10_drainStep_21 rfl ?_
  refine zg_X10_poolNumber C rfl tw_238 d_X10_drainStep_22 ?_
  refine z_aload_n (j := 0) C d_X10_drainStep_25 rfl ?_
  refine zg_X10_zone C rfl tw_244 d_X10_drainStep_26 ?_
  obtain ⟨hg29_0, hf⟩ := gd hf
  obtain ⟨q29, hF, hf⟩ := bd hf
  refine z_callV1 (rest := []) C [aI (gI S 4 2), aI (gI S 4 8)] hg29_0 (by decide) rfl rfl k_X2_liquidityAt tw_870 ⟨by decide, by decide⟩ (Nat.le_of_ble_eq_true rfl) d_X10_drainStep_29 (c_X2_liquidityAt C.inj hF) rfl ?_
  refine z_lstore (lv' := [(5, aJ q29.1), (0, aR 4), (1, aI v1), (2, aI v2), (3, aI v3), (4, aI v4)]) C d_X10_drainStep_32 (by decide) rfl ?_
  refine z_aload_n (j := 1) C d_X10_drainStep_34 rfl ?_
  refine zg_X10_side C rfl tw_239 d_X10_drainStep_35 ?_
  refine z_if_eq (tgt := 45) C d_X10_drainStep_38 (by decide) hf (fun c38 hf => ?_) (fun c38 hf => ?_)
  · refine z_iconst (v := 0) C d_X10_drainStep_45 (by decide) ?_
    exact z_sub [1, 2, 3, 4, 5, 0] rfl (t_X10_drainStep_46 C hr  _ _ _ _ _ _ _ hf)
  · refine z_iconst (v := 1) C d_X10_drainStep_41 (by decide) ?_
    refine z_goto (tgt := 46) C d_X10_drainStep_42 (by decide) ?_
    exact z_sub [1, 2, 3, 4, 5, 0] rfl (t_X10_drainStep_46 C hr  _ _ _ _ _ _ _ hf)
/-- TickPools$Trade.drainStep(I)V -/
def f_X10_drainStep (p1 : Int32) (S : Mem) : Option (Unit × Mem) := ((f_X10_aimBefore p1 S).bind fun q2 => ((f_X0_rootAt q2.1 q2.2).bind fun q7 => (f_X10_drainStep_17  p1 q2.1 q7.1 (gI q7.2 4 5) q7.2)))
set_option maxRecDepth 20000 in
theorem c_X10_drainStep {l : Launch} {Γ : GG} (hI : Inj Γ) {p1 : Int32} {S : Mem} {q : Unit × Mem} (hf : f_X10_drainStep p1 S = some q) : MM l Γ yX10_drainStep cX10_drainStep 14 (none) 3 83 [aR 4, aI p1] S none q.2 := by
  refine met_of hI "TickPools$Trade" rfl (by decide +kernel) (Nat.le_of_ble_eq_true rfl) (fun X hX C hr => ?_)
  unfold f_X10_drainStep at hf
  show ZZ X Γ 14 _ S 0 [(0, aR 4), (1, aI p1)] []
  refine z_aload_n (j := 0) C d_X10_drainStep_0 rfl ?_
  refine z_iload_n (j := 1) C d_X10_drainStep_1 rfl ?_
  obtain ⟨q2, hF, hf⟩ := bd hf
  refine z_callV1 (rest := []) C [aI p1] rfl (by decide) rfl rfl k_X10_aimBefore tw_858 ⟨by decide, by decide⟩ (Nat.le_of_ble_eq_true rfl) d_X10_drainStep_2 (c_X10_aimBefore C.inj hF) rfl ?_
  refine z_istore_n (lv' := [(2, aI q2.1), (0, aR 4), (1, aI p1)]) C d_X10_drainStep_5 (by decide) rfl ?_
  refine z_iload_n (j := 0) C d_X10_drainStep_6 rfl ?_
  obtain ⟨q7, hF, hf⟩ := bd hf
  refine z_callS1 (rest := []) C [aI q2.1] k_X0_rootAt tw_869 ⟨by decide, by decide⟩ (Nat.le_of_ble_eq_true rfl) d_X10_drainStep_7 (c_X0_rootAt C.inj hF) rfl ?_
  refine z_istore_n (lv' := [(3, aI q7.1), (2, aI q2.1), (0, aR 4), (1, aI p1)]) C d_X10_drainStep_10 (by decide) rfl ?_
  refine z_aload_n (j := 2) C d_X10_drainStep_11 rfl ?_
  refine zg_X10_root C rfl tw_241 d_X10_drainStep_12 ?_
  refine z_istore (lv' := [(4, aI (gI q7.2 4 5)), (3, aI q7.1), (2, aI q2.1), (0, aR 4), (1, aI p1)]) C d_X10_drainStep_15 (by decide) rfl ?_
  exact z_sub [3, 4, 2, 1, 0] rfl (t_X10_drainStep_17 C hr  _ _ _ _ _ hf)
theorem d_X10_drain_0 : decode cX10_drain 0 = .ok (.aload_n 0, 1) := by decide +kernel
theorem d_X10_drain_1 : decode cX10_drain 1 = .ok (.aload_n 1, 1) := by decide +kernel
theorem d_X10_drain_2 : decode cX10_drain 2 = .ok (.iload_n 3, 1) := by decide +kernel
theorem d_X10_drain_3 : decode cX10_drain 3 = .ok (.iload 4, 2) := by decide +kernel
theorem d_X10_drain_5 : decode cX10_drain 5 = .ok (.lload 5, 2) := by decide +kernel
theorem d_X10_drain_7 : decode cX10_drain 7 = .ok (.iload 7, 2) := by decide +kernel
theorem d_X10_drain_9 : decode cX10_drain 9 = .ok (.invokevirtual 9, 3) := by decide +kernel
theorem d_X10_drain_12 : decode cX10_drain 12 = .ok (.ifCond .ne 4, 3) := by decide +kernel
theorem d_X10_drain_15 : decode cX10_drain 15 = .ok (.return_, 1) := by decide +kernel
theorem d_X10_drain_16 : decode cX10_drain 16 = .ok (.aload_n 0, 1) := by decide +kernel
theorem d_X10_drain_17 : decode cX10_drain 17 = .ok (.getfield 15, 3) := by decide +kernel
theorem d_X10_drain_20 : decode cX10_drain 20 = .ok (.invokestatic 56, 3) := by decide +kernel
theorem d_X10_drain_23 : decode cX10_drain 23 = .ok (.istore 8, 2) := by decide +kernel
theorem d_X10_drain_25 : decode cX10_drain 25 = .ok (.iconst 0, 1) := by decide +kernel
theorem d_X10_drain_26 : decode cX10_drain 26 = .ok (.istore 9, 2) := by decide +kernel
theorem d_X10_drain_28 : decode cX10_drain 28 = .ok (.iload 9, 2) := by decide +kernel
theorem d_X10_drain_30 : decode cX10_drain 30 = .ok (.sipush 1000, 3) := by decide +kernel
theorem d_X10_drain_33 : decode cX10_drain 33 = .ok (.if_icmp .ge 65, 3) := by decide +kernel
theorem d_X10_drain_36 : decode cX10_drain 36 = .ok (.aload_n 0, 1) := by decide +kernel
theorem d_X10_drain_37 : decode cX10_drain 37 = .ok (.getfield 26, 3) := by decide +kernel
theorem d_X10_drain_40 : decode cX10_drain 40 = .ok (.lconst 0, 1) := by decide +kernel
theorem d_X10_drain_41 : decode cX10_drain 41 = .ok (.lcmp, 1) := by decide +kernel
theorem d_X10_drain_42 : decode cX10_drain 42 = .ok (.ifCond .le 56, 3) := by decide +kernel
theorem d_X10_drain_45 : decode cX10_drain 45 = .ok (.aload_n 0, 1) := by decide +kernel
theorem d_X10_drain_46 : decode cX10_drain 46 = .ok (.getfield 22, 3) := by decide +kernel
theorem d_X10_drain_49 : decode cX10_drain 49 = .ok (.ifCond .ne 49, 3) := by decide +kernel
theorem d_X10_drain_52 : decode cX10_drain 52 = .ok (.aload_n 0, 1) := by decide +kernel
theorem d_X10_drain_53 : decode cX10_drain 53 = .ok (.iload 8, 2) := by decide +kernel
theorem d_X10_drain_55 : decode cX10_drain 55 = .ok (.invokevirtual 60, 3) := by decide +kernel
theorem d_X10_drain_58 : decode cX10_drain 58 = .ok (.aload_n 0, 1) := by decide +kernel
theorem d_X10_drain_59 : decode cX10_drain 59 = .ok (.getfield 34, 3) := by decide +kernel
theorem d_X10_drain_62 : decode cX10_drain 62 = .ok (.ifCond .eq 30, 3) := by decide +kernel
theorem d_X10_drain_65 : decode cX10_drain 65 = .ok (.aload_n 0, 1) := by decide +kernel
theorem d_X10_drain_66 : decode cX10_drain 66 = .ok (.getfield 37, 3) := by decide +kernel
theorem d_X10_drain_69 : decode cX10_drain 69 = .ok (.iconst (-1), 1) := by decide +kernel
theorem d_X10_drain_70 : decode cX10_drain 70 = .ok (.if_icmp .eq 22, 3) := by decide +kernel
theorem d_X10_drain_73 : decode cX10_drain 73 = .ok (.aload_n 0, 1) := by decide +kernel
theorem d_X10_drain_74 : decode cX10_drain 74 = .ok (.getfield 40, 3) := by decide +kernel
theorem d_X10_drain_77 : decode cX10_drain 77 = .ok (.aload_n 0, 1) := by decide +kernel
theorem d_X10_drain_78 : decode cX10_drain 78 = .ok (.getfield 44, 3) := by decide +kernel
theorem d_X10_drain_81 : decode cX10_drain 81 = .ok (.aload_n 0, 1) := by decide +kernel
theorem d_X10_drain_82 : decode cX10_drain 82 = .ok (.getfield 15, 3) := by decide +kernel
theorem d_X10_drain_85 : decode cX10_drain 85 = .ok (.aload_n 0, 1) := by decide +kernel
theorem d_X10_drain_86 : decode cX10_drain 86 = .ok (.getfield 37, 3) := by decide +kernel
theorem d_X10_drain_89 : decode cX10_drain 89 = .ok (.invokevirtual 47, 3) := by decide +kernel
theorem d_X10_drain_92 : decode cX10_drain 92 = .ok (.iinc 9 1, 3) := by decide +kernel
theorem d_X10_drain_95 : decode cX10_drain 95 = .ok (.goto (-67), 3) := by decide +kernel
theorem d_X10_drain_98 : decode cX10_drain 98 = .ok (.aload_n 0, 1) := by decide +kernel
theorem d_X10_drain_99 : decode cX10_drain 99 = .ok (.iload_n 2, 1) := by decide +kernel
theorem d_X10_drain_100 : decode cX10_drain 100 = .ok (.invokevirtual 53, 3) := by decide +kernel
theorem d_X10_drain_103 : decode cX10_drain 103 = .ok (.return_, 1) := by decide +kernel
def f_X10_drain_92 (k28 : Int32 → Int32 → Int32 → Mem → Option (Unit × Mem)) (v2 : Int32) (v8 : Int32) (v9 : Int32) (S : Mem) : Option (Unit × Mem) := (k28 v2 v8 (v9 + 1) S)
set_option maxRecDepth 20000 in
theorem t_X10_drain_92 {X : MC} {Γ : GG} (C : CX X Γ cX10_drain 10 "TickPools$Trade" 4 117) (hr : X.2.2.2.2.2.2.2.2.1.sig.returnType = none) {k28 : Int32 → Int32 → Int32 → Mem → Option (Unit × Mem)} {q : Unit × Mem} (hk28 : ∀ (v2 : Int32) (v8 : Int32) (v9 : Int32) (S : Mem), k28 v2 v8 v9 S = some q → ZZ X Γ 10 (QQ X Γ none q.2) S 28 [(0, aR 4), (2, aI v2), (8, aI v8), (9, aI v9)] []) (v2 : Int32) (v8 : Int32) (v9 : Int32) (S : Mem) (hf : f_X10_drain_92 k28 v2 v8 v9 S = some q) : ZZ X Γ 10 (QQ X Γ none q.2) S 92 [(0, aR 4), (2, aI v2), (8, aI v8), (9, aI v9)] [] := by
  unfold f_X10_drain_92 at hf
  refine z_iinc (j := 3) (v := (v9 + 1)) (lv' := [(9, aI (v9 + 1)), (0, aR 4), (2, aI v2), (8, aI v8)]) C d_X10_drain_92 rfl rfl (by decide) rfl ?_
  refine z_goto (tgt := 28) C d_X10_drain_95 (by decide) ?_
  exact z_sub [1, 2, 3, 0] rfl (hk28 _ _ _ _ hf)
def f_X10_drain_98 (v2 : Int32) (S : Mem) : Option (Unit × Mem) := ((f_X10_finish v2 S).bind fun q100 => (some ((), q100.2)))
set_option maxRecDepth 20000 in
theorem t_X10_drain_98 {X : MC} {Γ : GG} (C : CX X Γ cX10_drain 10 "TickPools$Trade" 4 117) (hr : X.2.2.2.2.2.2.2.2.1.sig.returnType = none) {q : Unit × Mem} (v2 : Int32) (S : Mem) (hf : f_X10_drain_98 v2 S = some q) : ZZ X Γ 10 (QQ X Γ none q.2) S 98 [(0, aR 4), (2, aI v2)] [] := by
  unfold f_X10_drain_98 at hf
  refine z_aload_n (j := 0) C d_X10_drain_98 rfl ?_
  refine z_iload_n (j := 1) C d_X10_drain_99 rfl ?_
  obtain ⟨q100, hF, hf⟩ := bd hf
  refine z_callV0 (rest := []) C [aI v2] rfl (by decide) rfl rfl k_X10_finish tw_926 ⟨by decide, by decide⟩ (Nat.le_of_ble_eq_true rfl) d_X10_drain_100 (c_X10_finish C.inj hF) rfl ?_
  exact r_v C hr d_X10_drain_103 hf
def f_X10_drain_28B (k28 : Int32 → Int32 → Int32 → Mem → Option (Unit × Mem)) (v2 : Int32) (v8 : Int32) (v9 : Int32) (S : Mem) : Option (Unit × Mem) := (if 1000 ≤ v9 then (f_X10_drain_98  v2 S) else (if (gL S 4 10) ≤ 0 then (f_X10_drain_98  v2 S) else (if (gI S 4 6) = 0 then ((f_X10_drainStep v8 S).bind fun q55 => (if (gI q55.2 4 4) = 0 then (f_X10_drain_92 k28 v2 v8 v9 q55.2) else (if (gI q55.2 4 7) = (-1) then (f_X10_drain_92 k28 v2 v8 v9 q55.2) else (if kd (gR q55.2 4 0) = (1, 9) then ((f_X2_dropAt (gR q55.2 4 0) (gI q55.2 4 2) (gI q55.2 4 3) (gI q55.2 4 7) q55.2).bind fun q89 => (f_X10_drain_92 k28 v2 v8 v9 q89.2)) else none)))) else (f_X10_drain_98  v2 S))))
set_option maxRecDepth 20000 in
theorem t_X10_drain_28B {X : MC} {Γ : GG} (C : CX X Γ cX10_drain 10 "TickPools$Trade" 4 117) (hr : X.2.2.2.2.2.2.2.2.1.sig.returnType = none) {k28 : Int32 → Int32 → Int32 → Mem → Option (Unit × Mem)} {q : Unit × Mem} (hk28 : ∀ (v2 : Int32) (v8 : Int32) (v9 : Int32) (S : Mem), k28 v2 v8 v9 S = some q → ZZ X Γ 10 (QQ X Γ none q.2) S 28 [(0, aR 4), (2, aI v2), (8, aI v8), (9, aI v9)] []) (v2 : Int32) (v8 : Int32) (v9 : Int32) (S : Mem) (hf : f_X10_drain_28B k28 v2 v8 v9 S = some q) : ZZ X Γ 10 (QQ X Γ none q.2) S 28 [(0, aR 4), (2, aI v2), (8, aI v8), (9, aI v9)] [] := by
  unfold f_X10_drain_28B at hf
  refine z_iload (j := 3) C d_X10_drain_28 rfl ?_
  refine z_sipush (v := 1000) C d_X10_drain_30 (by decide) ?_
  refine z_icmp_ge (tgt := 98) C d_X10_drain_33 (by decide) hf (fun c33 hf => ?_) (fun c33 hf => ?_)
  · exact z_sub [0, 1] rfl (t_X10_drain_98 C hr  _ _ hf)
  · refine z_aload_n (j := 0) C d_X10_drain_36 rfl ?_
    refine zg_X10_left C rfl tw_248 d_X10_drain_37 ?_
    refine z_lconst (v := 0) C d_X10_drain_40 (by decide) ?_
    refine z_lle (tgt := 98) C d_X10_drain_41 d_X10_drain_42 (by decide) hf (fun c41 hf => ?_) (fun c41 hf => ?_)
    · exact z_sub [0, 1] rfl (t_X10_drain_98 C hr  _ _ hf)
    · refine z_aload_n (j := 0) C d_X10_drain_45 rfl ?_
      refine zg_X10_atEnd C rfl tw_242 d_X10_drain_46 ?_
      refine z_if_ne (tgt := 98) C d_X10_drain_49 (by decide) hf (fun c49 hf => ?_) (fun c49 hf => ?_)
      · exact z_sub [0, 1] rfl (t_X10_drain_98 C hr  _ _ hf)
      · refine z_aload_n (j := 0) C d_X10_drain_52 rfl ?_
        refine z_iload (j := 2) C d_X10_drain_53 rfl ?_
        obtain ⟨q55, hF, hf⟩ := bd hf
        refine z_callV0 (rest := []) C [aI v8] rfl (by decide) rfl rfl k_X10_drainStep tw_947 ⟨by decide, by decide⟩ (Nat.le_of_ble_eq_true rfl) d_X10_drain_55 (c_X10_drainStep C.inj hF) rfl ?_
        refine z_aload_n (j := 0) C d_X10_drain_58 rfl ?_
        refine zg_X10_real C rfl tw_240 d_X10_drain_59 ?_
        refine z_if_eq (tgt := 92) C d_X10_drain_62 (by decide) hf (fun c62 hf => ?_) (fun c62 hf => ?_)
        · exact z_sub [0, 1, 2, 3] rfl (t_X10_drain_92 C hr hk28 _ _ _ _ hf)
        · refine z_aload_n (j := 0) C d_X10_drain_65 rfl ?_
          refine zg_X10_crossedTick C rfl tw_243 d_X10_drain_66 ?_
          refine z_iconst (v := (-1)) C d_X10_drain_69 (by decide) ?_
          refine z_icmp_eq (tgt := 92) C d_X10_drain_70 (by decide) hf (fun c70 hf => ?_) (fun c70 hf => ?_)
          · exact z_sub [0, 1, 2, 3] rfl (t_X10_drain_92 C hr hk28 _ _ _ _ hf)
          · refine z_aload_n (j := 0) C d_X10_drain_73 rfl ?_
            refine zg_X10_market C rfl tw_236 d_X10_drain_74 ?_
            refine z_aload_n (j := 0) C d_X10_drain_77 rfl ?_
            refine zg_X10_poolNumber C rfl tw_238 d_X10_drain_78 ?_
            refine z_aload_n (j := 0) C d_X10_drain_81 rfl ?_
            refine zg_X10_side C rfl tw_239 d_X10_drain_82 ?_
            refine z_aload_n (j := 0) C d_X10_drain_85 rfl ?_
            refine zg_X10_crossedTick C rfl tw_243 d_X10_drain_86 ?_
            obtain ⟨hg89_0, hf⟩ := gd hf
            obtain ⟨q89, hF, hf⟩ := bd hf
            refine z_callV0 (rest := []) C [aI (gI q55.2 4 2), aI (gI q55.2 4 3), aI (gI q55.2 4 7)] hg89_0 (by decide) rfl rfl k_X2_dropAt tw_894 ⟨by decide, by decide⟩ (Nat.le_of_ble_eq_true rfl) d_X10_drain_89 (c_X2_dropAt C.inj hF) rfl ?_
            exact z_sub [0, 1, 2, 3] rfl (t_X10_drain_92 C hr hk28 _ _ _ _ hf)
def f_X10_drain_28 : Nat → Int32 → Int32 → Int32 → Mem → Option (Unit × Mem)
  | 0 => fun _ _ _ _ => none
  | n + 1 => f_X10_drain_28B (f_X10_drain_28 n)
theorem t_X10_drain_28 {X : MC} {Γ : GG} (C : CX X Γ cX10_drain 10 "TickPools$Trade" 4 117) (hr : X.2.2.2.2.2.2.2.2.1.sig.returnType = none) {q : Unit × Mem} : ∀ (n : Nat) (v2 : Int32) (v8 : Int32) (v9 : Int32) (S : Mem) (hf : f_X10_drain_28 n v2 v8 v9 S = some q), ZZ X Γ 10 (QQ X Γ none q.2) S 28 [(0, aR 4), (2, aI v2), (8, aI v8), (9, aI v9)] []
  | 0, _, _, _, _, hf => nomatch (show (none : Option (Unit × Mem)) = some q from hf)
  | n + 1, v2, v8, v9, S, hf => t_X10_drain_28B C hr (t_X10_drain_28 C hr n) v2 v8 v9 S hf
/-- TickPools$Trade.drain(LTickPools$Market;IIIJZ)V -/
def f_X10_drain (p1 : Nat) (p2 : Int32) (p3 : Int32) (p4 : Int32) (p5 : Int64) (p7 : Int32) (S : Mem) : Option (Unit × Mem) := ((f_X10_start p1 p3 p4 p5 p7 S).bind fun q9 => (if q9.1 = 0 then (some ((), q9.2)) else ((f_X11_lastTick (gI q9.2 4 3) q9.2).bind fun q20 => (f_X10_drain_28  100000 p2 q20.1 0 q20.2))))
set_option maxRecDepth 20000 in
theorem c_X10_drain {l : Launch} {Γ : GG} (hI : Inj Γ) {p1 : Nat} {p2 : Int32} {p3 : Int32} {p4 : Int32} {p5 : Int64} {p7 : Int32} {S : Mem} {q : Unit × Mem} (hf : f_X10_drain p1 p2 p3 p4 p5 p7 S = some q) : MM l Γ yX10_drain cX10_drain 10 (none) 4 117 [aR 4, aR p1, aI p2, aI p3, aI p4, aJ p5, aI p7] S none q.2 := by
  refine met_of hI "TickPools$Trade" rfl (by decide +kernel) (Nat.le_of_ble_eq_true rfl) (fun X hX C hr => ?_)
  unfold f_X10_drain at hf
  show ZZ X Γ 10 _ S 0 [(0, aR 4), (1, aR p1), (2, aI p2), (3, aI p3), (4, aI p4), (5, aJ p5), (7, aI p7)] []
  refine z_aload_n (j := 0) C d_X10_drain_0 rfl ?_
  refine z_aload_n (j := 1) C d_X10_drain_1 rfl ?_
  refine z_iload_n (j := 3) C d_X10_drain_2 rfl ?_
  refine z_iload (j := 4) C d_X10_drain_3 rfl ?_
  refine z_lload (j := 5) C d_X10_drain_5 rfl ?_
  refine z_iload (j := 6) C d_X10_drain_7 rfl ?_
  obtain ⟨q9, hF, hf⟩ := bd hf
  refine z_callV1 (rest := []) C [aR p1, aI p3, aI p4, aJ p5, aI p7] rfl (by decide) rfl rfl k_X10_start tw_840 ⟨by decide, by decide⟩ (Nat.le_of_ble_eq_true rfl) d_X10_drain_9 (c_X10_start C.inj hF) rfl ?_
  refine z_if_ne (tgt := 16) C d_X10_drain_12 (by decide) hf (fun c12 hf => ?_) (fun c12 hf => ?_)
  · refine z_aload_n (j := 0) C d_X10_drain_16 rfl ?_
    refine zg_X10_side C rfl tw_239 d_X10_drain_17 ?_
    obtain ⟨q20, hF, hf⟩ := bd hf
    refine z_callSN1 (rest := []) C [aI (gI q9.2 4 3)] k_X11_lastTick (nw_6) ⟨by decide, by decide⟩ (Nat.le_of_ble_eq_true rfl) d_X10_drain_20 (c_X11_lastTick C.inj hF) rfl ?_
    refine z_istore (lv' := [(8, aI q20.1), (0, aR 4), (1, aR p1), (2, aI p2), (3, aI p3), (4, aI p4), (5, aJ p5), (7, aI p7)]) C d_X10_drain_23 (by decide) rfl ?_
    refine z_iconst (v := 0) C d_X10_drain_25 (by decide) ?_
    refine z_istore (lv' := [(9, aI 0), (8, aI q20.1), (0, aR 4), (1, aR p1), (2, aI p2), (3, aI p3), (4, aI p4), (5, aJ p5), (7, aI p7)]) C d_X10_drain_26 (by decide) rfl ?_
    exact z_sub [2, 4, 1, 0] rfl (t_X10_drain_28 C hr  100000 _ _ _ _ hf)
  · exact r_v C hr d_X10_drain_15 hf
theorem d_X5_doOut_0 : decode cX5_doOut 0 = .ok (.aload_n 0, 1) := by decide +kernel
theorem d_X5_doOut_1 : decode cX5_doOut 1 = .ok (.getfield 9, 3) := by decide +kernel
theorem d_X5_doOut_4 : decode cX5_doOut 4 = .ok (.aload_n 1, 1) := by decide +kernel
theorem d_X5_doOut_5 : decode cX5_doOut 5 = .ok (.getfield 89, 3) := by decide +kernel
theorem d_X5_doOut_8 : decode cX5_doOut 8 = .ok (.invokevirtual 136, 3) := by decide +kernel
theorem d_X5_doOut_11 : decode cX5_doOut 11 = .ok (.astore_n 2, 1) := by decide +kernel
theorem d_X5_doOut_12 : decode cX5_doOut 12 = .ok (.aload_n 2, 1) := by decide +kernel
theorem d_X5_doOut_13 : decode cX5_doOut 13 = .ok (.ifnull 14, 3) := by decide +kernel
theorem d_X5_doOut_16 : decode cX5_doOut 16 = .ok (.aload_n 0, 1) := by decide +kernel
theorem d_X5_doOut_17 : decode cX5_doOut 17 = .ok (.aload_n 1, 1) := by decide +kernel
theorem d_X5_doOut_18 : decode cX5_doOut 18 = .ok (.getfield 89, 3) := by decide +kernel
theorem d_X5_doOut_21 : decode cX5_doOut 21 = .ok (.invokevirtual 92, 3) := by decide +kernel
theorem d_X5_doOut_24 : decode cX5_doOut 24 = .ok (.ifCond .eq 5, 3) := by decide +kernel
theorem d_X5_doOut_27 : decode cX5_doOut 27 = .ok (.iconst 0, 1) := by decide +kernel
theorem d_X5_doOut_28 : decode cX5_doOut 28 = .ok (.ireturn, 1) := by decide +kernel
theorem d_X5_doOut_29 : decode cX5_doOut 29 = .ok (.aload_n 0, 1) := by decide +kernel
theorem d_X5_doOut_30 : decode cX5_doOut 30 = .ok (.getfield 9, 3) := by decide +kernel
theorem d_X5_doOut_33 : decode cX5_doOut 33 = .ok (.aload_n 0, 1) := by decide +kernel
theorem d_X5_doOut_34 : decode cX5_doOut 34 = .ok (.getfield 39, 3) := by decide +kernel
theorem d_X5_doOut_37 : decode cX5_doOut 37 = .ok (.aload_n 2, 1) := by decide +kernel
theorem d_X5_doOut_38 : decode cX5_doOut 38 = .ok (.aload_n 1, 1) := by decide +kernel
theorem d_X5_doOut_39 : decode cX5_doOut 39 = .ok (.getfield 140, 3) := by decide +kernel
theorem d_X5_doOut_42 : decode cX5_doOut 42 = .ok (.invokevirtual 143, 3) := by decide +kernel
theorem d_X5_doOut_45 : decode cX5_doOut 45 = .ok (.invokevirtual 120, 3) := by decide +kernel
theorem d_X5_doOut_48 : decode cX5_doOut 48 = .ok (.istore_n 3, 1) := by decide +kernel
theorem d_X5_doOut_49 : decode cX5_doOut 49 = .ok (.aload_n 0, 1) := by decide +kernel
theorem d_X5_doOut_50 : decode cX5_doOut 50 = .ok (.aload_n 1, 1) := by decide +kernel
theorem d_X5_doOut_51 : decode cX5_doOut 51 = .ok (.aload_n 2, 1) := by decide +kernel
theorem d_X5_doOut_52 : decode cX5_doOut 52 = .ok (.iconst 1, 1) := by decide +kernel
theorem d_X5_doOut_53 : decode cX5_doOut 53 = .ok (.aload_n 1, 1) := by decide +kernel
theorem d_X5_doOut_54 : decode cX5_doOut 54 = .ok (.getfield 140, 3) := by decide +kernel
theorem d_X5_doOut_57 : decode cX5_doOut 57 = .ok (.isub, 1) := by decide +kernel
theorem d_X5_doOut_58 : decode cX5_doOut 58 = .ok (.invokevirtual 165, 3) := by decide +kernel
theorem d_X5_doOut_61 : decode cX5_doOut 61 = .ok (.invokevirtual 149, 3) := by decide +kernel
theorem d_X5_doOut_64 : decode cX5_doOut 64 = .ok (.lstore 4, 2) := by decide +kernel
theorem d_X5_doOut_66 : decode cX5_doOut 66 = .ok (.lload 4, 2) := by decide +kernel
theorem d_X5_doOut_68 : decode cX5_doOut 68 = .ok (.lconst 1, 1) := by decide +kernel
theorem d_X5_doOut_69 : decode cX5_doOut 69 = .ok (.lcmp, 1) := by decide +kernel
theorem d_X5_doOut_70 : decode cX5_doOut 70 = .ok (.ifCond .lt 12, 3) := by decide +kernel
theorem d_X5_doOut_73 : decode cX5_doOut 73 = .ok (.lload 4, 2) := by decide +kernel
theorem d_X5_doOut_75 : decode cX5_doOut 75 = .ok (.ldc2_w 168, 3) := by decide +kernel
theorem d_X5_doOut_78 : decode cX5_doOut 78 = .ok (.lcmp, 1) := by decide +kernel
theorem d_X5_doOut_79 : decode cX5_doOut 79 = .ok (.ifCond .le 5, 3) := by decide +kernel
theorem d_X5_doOut_82 : decode cX5_doOut 82 = .ok (.iconst 0, 1) := by decide +kernel
theorem d_X5_doOut_83 : decode cX5_doOut 83 = .ok (.ireturn, 1) := by decide +kernel
theorem d_X5_doOut_84 : decode cX5_doOut 84 = .ok (.aload_n 0, 1) := by decide +kernel
theorem d_X5_doOut_85 : decode cX5_doOut 85 = .ok (.getfield 19, 3) := by decide +kernel
theorem d_X5_doOut_88 : decode cX5_doOut 88 = .ok (.aload_n 0, 1) := by decide +kernel
theorem d_X5_doOut_89 : decode cX5_doOut 89 = .ok (.getfield 9, 3) := by decide +kernel
theorem d_X5_doOut_92 : decode cX5_doOut 92 = .ok (.aload_n 0, 1) := by decide +kernel
theorem d_X5_doOut_93 : decode cX5_doOut 93 = .ok (.getfield 39, 3) := by decide +kernel
theorem d_X5_doOut_96 : decode cX5_doOut 96 = .ok (.aload_n 1, 1) := by decide +kernel
theorem d_X5_doOut_97 : decode cX5_doOut 97 = .ok (.getfield 89, 3) := by decide +kernel
theorem d_X5_doOut_100 : decode cX5_doOut 100 = .ok (.aload_n 1, 1) := by decide +kernel
theorem d_X5_doOut_101 : decode cX5_doOut 101 = .ok (.getfield 140, 3) := by decide +kernel
theorem d_X5_doOut_104 : decode cX5_doOut 104 = .ok (.lload 4, 2) := by decide +kernel
theorem d_X5_doOut_106 : decode cX5_doOut 106 = .ok (.iconst 1, 1) := by decide +kernel
theorem d_X5_doOut_107 : decode cX5_doOut 107 = .ok (.invokevirtual 170, 3) := by decide +kernel
theorem d_X5_doOut_110 : decode cX5_doOut 110 = .ok (.aload_n 0, 1) := by decide +kernel
theorem d_X5_doOut_111 : decode cX5_doOut 111 = .ok (.aload_n 0, 1) := by decide +kernel
theorem d_X5_doOut_112 : decode cX5_doOut 112 = .ok (.getfield 19, 3) := by decide +kernel
theorem d_X5_doOut_115 : decode cX5_doOut 115 = .ok (.getfield 162, 3) := by decide +kernel
theorem d_X5_doOut_118 : decode cX5_doOut 118 = .ok (.putfield 55, 3) := by decide +kernel
theorem d_X5_doOut_121 : decode cX5_doOut 121 = .ok (.aload_n 0, 1) := by decide +kernel
theorem d_X5_doOut_122 : decode cX5_doOut 122 = .ok (.getfield 19, 3) := by decide +kernel
theorem d_X5_doOut_125 : decode cX5_doOut 125 = .ok (.getfield 174, 3) := by decide +kernel
theorem d_X5_doOut_128 : decode cX5_doOut 128 = .ok (.lconst 0, 1) := by decide +kernel
theorem d_X5_doOut_129 : decode cX5_doOut 129 = .ok (.lcmp, 1) := by decide +kernel
theorem d_X5_doOut_130 : decode cX5_doOut 130 = .ok (.ifCond .ne 20, 3) := by decide +kernel
theorem d_X5_doOut_133 : decode cX5_doOut 133 = .ok (.aload_n 0, 1) := by decide +kernel
theorem d_X5_doOut_134 : decode cX5_doOut 134 = .ok (.getfield 19, 3) := by decide +kernel
theorem d_X5_doOut_137 : decode cX5_doOut 137 = .ok (.getfield 177, 3) := by decide +kernel
theorem d_X5_doOut_140 : decode cX5_doOut 140 = .ok (.iload_n 3, 1) := by decide +kernel
theorem d_X5_doOut_141 : decode cX5_doOut 141 = .ok (.i2l, 1) := by decide +kernel
theorem d_X5_doOut_142 : decode cX5_doOut 142 = .ok (.lcmp, 1) := by decide +kernel
theorem d_X5_doOut_143 : decode cX5_doOut 143 = .ok (.ifCond .gt 7, 3) := by decide +kernel
theorem d_X5_doOut_146 : decode cX5_doOut 146 = .ok (.iconst 1, 1) := by decide +kernel
theorem d_X5_doOut_147 : decode cX5_doOut 147 = .ok (.goto 4, 3) := by decide +kernel
theorem d_X5_doOut_150 : decode cX5_doOut 150 = .ok (.iconst 0, 1) := by decide +kernel
theorem d_X5_doOut_151 : decode cX5_doOut 151 = .ok (.ireturn, 1) := by decide +kernel
def f_X5_doOut_27 (S : Mem) : Option (Int32 × Mem) := (some (0, S))
set_option maxRecDepth 20000 in
theorem t_X5_doOut_27 {X : MC} {Γ : GG} (C : CX X Γ cX5_doOut 6 "TickPools$Runner" 5 146) (hr : X.2.2.2.2.2.2.2.2.1.sig.returnType = some .boolean) {q : Int32 × Mem} (S : Mem) (hf : f_X5_doOut_27 S = some q) : ZZ X Γ 6 (QQ X Γ (some (aI q.1)) q.2) S 27 [] [] := by
  unfold f_X5_doOut_27 at hf
  refine z_iconst (v := 0) C d_X5_doOut_27 (by decide) ?_
  exact r_i C hr (by decide) d_X5_doOut_28 hf
def f_X5_doOut_82 (S : Mem) : Option (Int32 × Mem) := (some (0, S))
set_option maxRecDepth 20000 in
theorem t_X5_doOut_82 {X : MC} {Γ : GG} (C : CX X Γ cX5_doOut 6 "TickPools$Runner" 5 146) (hr : X.2.2.2.2.2.2.2.2.1.sig.returnType = some .boolean) {q : Int32 × Mem} (S : Mem) (hf : f_X5_doOut_82 S = some q) : ZZ X Γ 6 (QQ X Γ (some (aI q.1)) q.2) S 82 [] [] := by
  unfold f_X5_doOut_82 at hf
  refine z_iconst (v := 0) C d_X5_doOut_82 (by decide) ?_
  exact r_i C hr (by decide) d_X5_doOut_83 hf
def f_X5_doOut_151 (s0 : Int32) (S : Mem) : Option (Int32 × Mem) := (if isB s0 = true then (some (s0, S)) else none)
set_option maxRecDepth 20000 in
theorem t_X5_doOut_151 {X : MC} {Γ : GG} (C : CX X Γ cX5_doOut 6 "TickPools$Runner" 5 146) (hr : X.2.2.2.2.2.2.2.2.1.sig.returnType = some .boolean) {q : Int32 × Mem} (s0 : Int32) (S : Mem) (hf : f_X5_doOut_151 s0 S = some q) : ZZ X Γ 6 (QQ X Γ (some (aI q.1)) q.2) S 151 [] [aI s0] := by
  unfold f_X5_doOut_151 at hf
  obtain ⟨hb151_0, hf⟩ := gd hf
  exact r_i C hr (isB_nar hb151_0).1 d_X5_doOut_151 hf
def f_X5_doOut_150 (S : Mem) : Option (Int32 × Mem) := (f_X5_doOut_151  0 S)
set_option maxRecDepth 20000 in
theorem t_X5_doOut_150 {X : MC} {Γ : GG} (C : CX X Γ cX5_doOut 6 "TickPools$Runner" 5 146) (hr : X.2.2.2.2.2.2.2.2.1.sig.returnType = some .boolean) {q : Int32 × Mem} (S : Mem) (hf : f_X5_doOut_150 S = some q) : ZZ X Γ 6 (QQ X Γ (some (aI q.1)) q.2) S 150 [] [] := by
  unfold f_X5_doOut_150 at hf
  refine z_iconst (v := 0) C d_X5_doOut_150 (by decide) ?_
  exact z_sub [] rfl (t_X5_doOut_151 C hr  _ _ hf)
/-- TickPools$Runner.doOut(LTickPools$Step;)Z -/
def f_X5_doOut (p1 : Nat) (S : Mem) : Option (Int32 × Mem) := (if kd p1 = (7, 10) then ((f_X2_poolAt 78 (gI S p1 2) S).bind fun q8 => (if q8.1 = 0 then (f_X5_doOut_27  q8.2) else ((f_X5_isLocked (gI q8.2 p1 2) q8.2).bind fun q21 => (if q21.1 = 0 then (if kd q8.1 = (3, 12) then ((f_X4_thingOn q8.1 (gI q21.2 p1 3) q21.2).bind fun q42 => ((f_X2_purseOf 78 (gI q21.2 9 5) q42.1 q42.2).bind fun q45 => ((f_X4_heldOn q8.1 (1 - (gI q45.2 p1 3)) q45.2).bind fun q58 => ((f_X5_muchOf p1 q58.1 q58.2).bind fun q61 => (if q61.1 < 1 then (f_X5_doOut_82  q61.2) else (if q61.1 ≤ 9999999 then ((f_X10_drain 78 (gI q61.2 9 5) (gI q61.2 p1 2) (gI q61.2 p1 3) q61.1 1 q61.2).bind fun q107 => (if (gL (sL q107.2 9 8 (gL q107.2 4 11)) 4 10) = 0 then (if (q45.1.toInt64) < (gL (sL q107.2 9 8 (gL q107.2 4 11)) 4 12) then (f_X5_doOut_150  (sL q107.2 9 8 (gL q107.2 4 11))) else (f_X5_doOut_151  1 (sL q107.2 9 8 (gL q107.2 4 11)))) else (f_X5_doOut_150  (sL q107.2 9 8 (gL q107.2 4 11))))) else (f_X5_doOut_82  q61.2))))))) else none) else (f_X5_doOut_27  q21.2))))) else none)
set_option maxRecDepth 20000 in
theorem c_X5_doOut {l : Launch} {Γ : GG} (hI : Inj Γ) {p1 : Nat} {S : Mem} {q : Int32 × Mem} (hf : f_X5_doOut p1 S = some q) : MM l Γ yX5_doOut cX5_doOut 6 (some .boolean) 5 146 [aR 9, aR p1] S (some (aI q.1)) q.2 := by
  refine met_of hI "TickPools$Runner" rfl (by decide +kernel) (Nat.le_of_ble_eq_true rfl) (fun X hX C hr => ?_)
  unfold f_X5_doOut at hf
  show ZZ X Γ 6 _ S 0 [(0, aR 9), (1, aR p1)] []
  refine z_aload_n (j := 0) C d_X5_doOut_0 rfl ?_
  refine zg_X5_market C rfl tw_384 d_X5_doOut_1 ?_
  refine z_aload_n (j := 1) C d_X5_doOut_4 rfl ?_
  obtain ⟨hg5_0, hf⟩ := gd hf
  refine zg_X8_pool C hg5_0 tw_320 d_X5_doOut_5 ?_
  obtain ⟨q8, hF, hf⟩ := bd hf
  refine z_callV1 (rest := []) C [aI (gI S p1 2)] rfl (by decide) rfl rfl k_X2_poolAt tw_776 ⟨by decide, by decide⟩ (Nat.le_of_ble_eq_true rfl) d_X5_doOut_8 (c_X2_poolAt C.inj hF) rfl ?_
  refine z_astore_n (lv' := [(2, aR q8.1), (0, aR 9), (1, aR p1)]) C d_X5_doOut_11 (by decide) rfl ?_
  refine z_aload_n (j := 0) C d_X5_doOut_12 rfl ?_
  refine z_ifnull (tgt := 27) C d_X5_doOut_13 (by decide) hf (fun c13 hf => ?_) (fun c13 hf => ?_)
  · exact z_sub [] rfl (t_X5_doOut_27 C hr  _ hf)
  · refine z_aload_n (j := 1) C d_X5_doOut_16 rfl ?_
    refine z_aload_n (j := 2) C d_X5_doOut_17 rfl ?_
    refine zg_X8_pool C hg5_0 tw_320 d_X5_doOut_18 ?_
    obtain ⟨q21, hF, hf⟩ := bd hf
    refine z_callV1 (rest := []) C [aI (gI q8.2 p1 2)] rfl (by decide) rfl rfl k_X5_isLocked tw_825 ⟨by decide, by decide⟩ (Nat.le_of_ble_eq_true rfl) d_X5_doOut_21 (c_X5_isLocked C.inj hF) rfl ?_
    refine z_if_eq (tgt := 29) C d_X5_doOut_24 (by decide) hf (fun c24 hf => ?_) (fun c24 hf => ?_)
    · refine z_aload_n (j := 1) C d_X5_doOut_29 rfl ?_
      refine zg_X5_market C rfl tw_384 d_X5_doOut_30 ?_
      refine z_aload_n (j := 1) C d_X5_doOut_33 rfl ?_
      refine zg_X5_person C rfl tw_387 d_X5_doOut_34 ?_
      refine z_aload_n (j := 0) C d_X5_doOut_37 rfl ?_
      refine z_aload_n (j := 2) C d_X5_doOut_38 rfl ?_
      refine zg_X8_side C hg5_0 tw_323 d_X5_doOut_39 ?_
      obtain ⟨hg42_1, hf⟩ := gd hf
      obtain ⟨q42, hF, hf⟩ := bd hf
      refine z_callV1 (rest := [aI (gI q21.2 9 5), aR 78]) C [aI (gI q21.2 p1 3)] hg42_1 (by decide) rfl rfl k_X4_thingOn tw_788 ⟨by decide, by decide⟩ (Nat.le_of_ble_eq_true rfl) d_X5_doOut_42 (c_X4_thingOn C.inj hF) rfl ?_
      obtain ⟨q45, hF, hf⟩ := bd hf
      refine z_callV1 (rest := []) C [aI (gI q21.2 9 5), aI q42.1] rfl (by decide) rfl rfl k_X2_purseOf tw_792 ⟨by decide, by decide⟩ (Nat.le_of_ble_eq_true rfl) d_X5_doOut_45 (c_X2_purseOf C.inj hF) rfl ?_
      refine z_istore_n (lv' := [(3, aI q45.1), (2, aR q8.1), (0, aR 9), (1, aR p1)]) C d_X5_doOut_48 (by decide) rfl ?_
      refine z_aload_n (j := 2) C d_X5_doOut_49 rfl ?_
      refine z_aload_n (j := 3) C d_X5_doOut_50 rfl ?_
      refine z_aload_n (j := 1) C d_X5_doOut_51 rfl ?_
      refine z_iconst (v := 1) C d_X5_doOut_52 (by decide) ?_
      refine z_aload_n (j := 3) C d_X5_doOut_53 rfl ?_
      refine zg_X8_side C hg5_0 tw_323 d_X5_doOut_54 ?_
      refine z_isub C d_X5_doOut_57 ?_
      obtain ⟨q58, hF, hf⟩ := bd hf
      refine z_callV1 (rest := [aR p1, aR 9]) C [aI (1 - (gI q45.2 p1 3))] hg42_1 (by decide) rfl rfl k_X4_heldOn tw_936 ⟨by decide, by decide⟩ (Nat.le_of_ble_eq_true rfl) d_X5_doOut_58 (c_X4_heldOn C.inj hF) rfl ?_
      obtain ⟨q61, hF, hf⟩ := bd hf
      refine z_callV1 (rest := []) C [aR p1, aI q58.1] rfl (by decide) rfl rfl k_X5_muchOf tw_829 ⟨by decide, by decide⟩ (Nat.le_of_ble_eq_true rfl) d_X5_doOut_61 (c_X5_muchOf C.inj hF) rfl ?_
      refine z_lstore (lv' := [(4, aJ q61.1), (3, aI q45.1), (2, aR q8.1), (0, aR 9), (1, aR p1)]) C d_X5_doOut_64 (by decide) rfl ?_
      refine z_lload (j := 0) C d_X5_doOut_66 rfl ?_
      refine z_lconst (v := 1) C d_X5_doOut_68 (by decide) ?_
      refine z_llt (tgt := 82) C d_X5_doOut_69 d_X5_doOut_70 (by decide) hf (fun c69 hf => ?_) (fun c69 hf => ?_)
      · exact z_sub [] rfl (t_X5_doOut_82 C hr  _ hf)
      · refine z_lload (j := 0) C d_X5_doOut_73 rfl ?_
        refine z_ldc2 (v := 9999999) C tw_941 d_X5_doOut_75 ?_
        refine z_lle (tgt := 84) C d_X5_doOut_78 d_X5_doOut_79 (by decide) hf (fun c78 hf => ?_) (fun c78 hf => ?_)
        · refine z_aload_n (j := 3) C d_X5_doOut_84 rfl ?_
          refine zg_X5_trade C rfl tw_386 d_X5_doOut_85 ?_
          refine z_aload_n (j := 3) C d_X5_doOut_88 rfl ?_
          refine zg_X5_market C rfl tw_384 d_X5_doOut_89 ?_
          refine z_aload_n (j := 3) C d_X5_doOut_92 rfl ?_
          refine zg_X5_person C rfl tw_387 d_X5_doOut_93 ?_
          refine z_aload_n (j := 4) C d_X5_doOut_96 rfl ?_
          refine zg_X8_pool C hg5_0 tw_320 d_X5_doOut_97 ?_
          refine z_aload_n (j := 4) C d_X5_doOut_100 rfl ?_
          refine zg_X8_side C hg5_0 tw_323 d_X5_doOut_101 ?_
          refine z_lload (j := 0) C d_X5_doOut_104 rfl ?_
          refine z_iconst (v := 1) C d_X5_doOut_106 (by decide) ?_
          obtain ⟨q107, hF, hf⟩ := bd hf
          refine z_callV0 (rest := []) C [aR 78, aI (gI q61.2 9 5), aI (gI q61.2 p1 2), aI (gI q61.2 p1 3), aJ q61.1, aI 1] rfl (by decide) rfl rfl k_X10_drain tw_942 ⟨by decide, by decide⟩ (Nat.le_of_ble_eq_true rfl) d_X5_doOut_107 (c_X10_drain C.inj hF) rfl ?_
          refine z_aload_n (j := 3) C d_X5_doOut_110 rfl ?_
          refine z_aload_n (j := 3) C d_X5_doOut_111 rfl ?_
          refine zg_X5_trade C rfl tw_386 d_X5_doOut_112 ?_
          refine zg_X10_gave C rfl tw_253 d_X5_doOut_115 ?_
          refine zp_X5_got C rfl tw_390 d_X5_doOut_118 ?_
          refine z_aload_n (j := 3) C d_X5_doOut_121 rfl ?_
          refine zg_X5_trade C rfl tw_386 d_X5_doOut_122 ?_
          refine zg_X10_left C rfl tw_249 d_X5_doOut_125 ?_
          refine z_lconst (v := 0) C d_X5_doOut_128 (by decide) ?_
          refine z_lne (tgt := 150) C d_X5_doOut_129 d_X5_doOut_130 (by decide) hf (fun c129 hf => ?_) (fun c129 hf => ?_)
          · exact z_sub [] rfl (t_X5_doOut_150 C hr  _ hf)
          · refine z_aload_n (j := 3) C d_X5_doOut_133 rfl ?_
            refine zg_X5_trade C rfl tw_386 d_X5_doOut_134 ?_
            refine zg_X10_paid C rfl tw_256 d_X5_doOut_137 ?_
            refine z_iload_n (j := 1) C d_X5_doOut_140 rfl ?_
            refine z_i2l C d_X5_doOut_141 ?_
            refine z_lgt (tgt := 150) C d_X5_doOut_142 d_X5_doOut_143 (by decide) hf (fun c142 hf => ?_) (fun c142 hf => ?_)
            · exact z_sub [] rfl (t_X5_doOut_150 C hr  _ hf)
            · refine z_iconst (v := 1) C d_X5_doOut_146 (by decide) ?_
              refine z_goto (tgt := 151) C d_X5_doOut_147 (by decide) ?_
              exact z_sub [] rfl (t_X5_doOut_151 C hr  _ _ hf)
        · exact z_sub [] rfl (t_X5_doOut_82 C hr  _ hf)
    · exact z_sub [] rfl (t_X5_doOut_27 C hr  _ hf)
theorem d_X5_doDrop_0 : decode cX5_doDrop 0 = .ok (.aload_n 0, 1) := by decide +kernel
theorem d_X5_doDrop_1 : decode cX5_doDrop 1 = .ok (.getfield 9, 3) := by decide +kernel
theorem d_X5_doDrop_4 : decode cX5_doDrop 4 = .ok (.aload_n 0, 1) := by decide +kernel
theorem d_X5_doDrop_5 : decode cX5_doDrop 5 = .ok (.getfield 39, 3) := by decide +kernel
theorem d_X5_doDrop_8 : decode cX5_doDrop 8 = .ok (.aload_n 1, 1) := by decide +kernel
theorem d_X5_doDrop_9 : decode cX5_doDrop 9 = .ok (.getfield 89, 3) := by decide +kernel
theorem d_X5_doDrop_12 : decode cX5_doDrop 12 = .ok (.aload_n 1, 1) := by decide +kernel
theorem d_X5_doDrop_13 : decode cX5_doDrop 13 = .ok (.getfield 96, 3) := by decide +kernel
theorem d_X5_doDrop_16 : decode cX5_doDrop 16 = .ok (.aload_n 1, 1) := by decide +kernel
theorem d_X5_doDrop_17 : decode cX5_doDrop 17 = .ok (.getfield 99, 3) := by decide +kernel
theorem d_X5_doDrop_20 : decode cX5_doDrop 20 = .ok (.iconst 0, 1) := by decide +kernel
theorem d_X5_doDrop_21 : decode cX5_doDrop 21 = .ok (.invokevirtual 180, 3) := by decide +kernel
theorem d_X5_doDrop_24 : decode cX5_doDrop 24 = .ok (.istore_n 2, 1) := by decide +kernel
theorem d_X5_doDrop_25 : decode cX5_doDrop 25 = .ok (.aload_n 0, 1) := by decide +kernel
theorem d_X5_doDrop_26 : decode cX5_doDrop 26 = .ok (.getfield 9, 3) := by decide +kernel
theorem d_X5_doDrop_29 : decode cX5_doDrop 29 = .ok (.iload_n 2, 1) := by decide +kernel
theorem d_X5_doDrop_30 : decode cX5_doDrop 30 = .ok (.invokevirtual 184, 3) := by decide +kernel
theorem d_X5_doDrop_33 : decode cX5_doDrop 33 = .ok (.astore_n 3, 1) := by decide +kernel
theorem d_X5_doDrop_34 : decode cX5_doDrop 34 = .ok (.aload_n 3, 1) := by decide +kernel
theorem d_X5_doDrop_35 : decode cX5_doDrop 35 = .ok (.ifnull 14, 3) := by decide +kernel
theorem d_X5_doDrop_38 : decode cX5_doDrop 38 = .ok (.aload_n 0, 1) := by decide +kernel
theorem d_X5_doDrop_39 : decode cX5_doDrop 39 = .ok (.aload_n 1, 1) := by decide +kernel
theorem d_X5_doDrop_40 : decode cX5_doDrop 40 = .ok (.getfield 89, 3) := by decide +kernel
theorem d_X5_doDrop_43 : decode cX5_doDrop 43 = .ok (.invokevirtual 92, 3) := by decide +kernel
theorem d_X5_doDrop_46 : decode cX5_doDrop 46 = .ok (.ifCond .eq 5, 3) := by decide +kernel
theorem d_X5_doDrop_49 : decode cX5_doDrop 49 = .ok (.iconst 0, 1) := by decide +kernel
theorem d_X5_doDrop_50 : decode cX5_doDrop 50 = .ok (.ireturn, 1) := by decide +kernel
theorem d_X5_doDrop_51 : decode cX5_doDrop 51 = .ok (.aload_n 0, 1) := by decide +kernel
theorem d_X5_doDrop_52 : decode cX5_doDrop 52 = .ok (.getfield 9, 3) := by decide +kernel
theorem d_X5_doDrop_55 : decode cX5_doDrop 55 = .ok (.iload_n 2, 1) := by decide +kernel
theorem d_X5_doDrop_56 : decode cX5_doDrop 56 = .ok (.aload_n 3, 1) := by decide +kernel
theorem d_X5_doDrop_57 : decode cX5_doDrop 57 = .ok (.getfield 188, 3) := by decide +kernel
theorem d_X5_doDrop_60 : decode cX5_doDrop 60 = .ok (.invokevirtual 193, 3) := by decide +kernel
theorem d_X5_doDrop_63 : decode cX5_doDrop 63 = .ok (.iconst 1, 1) := by decide +kernel
theorem d_X5_doDrop_64 : decode cX5_doDrop 64 = .ok (.ireturn, 1) := by decide +kernel
def f_X5_doDrop_49 (S : Mem) : Option (Int32 × Mem) := (some (0, S))
set_option maxRecDepth 20000 in
theorem t_X5_doDrop_49 {X : MC} {Γ : GG} (C : CX X Γ cX5_doDrop 4 "TickPools$Runner" 3 91) (hr : X.2.2.2.2.2.2.2.2.1.sig.returnType = some .boolean) {q : Int32 × Mem} (S : Mem) (hf : f_X5_doDrop_49 S = some q) : ZZ X Γ 4 (QQ X Γ (some (aI q.1)) q.2) S 49 [] [] := by
  unfold f_X5_doDrop_49 at hf
  refine z_iconst (v := 0) C d_X5_doDrop_49 (by decide) ?_
  exact r_i C hr (by decide) d_X5_doDrop_50 hf
/-- TickPools$Runner.doDrop(LTickPools$Step;)Z -/
def f_X5_doDrop (p1 : Nat) (S : Mem) : Option (Int32 × Mem) := (if kd p1 = (7, 10) then ((f_X2_findStake 78 (gI S 9 5) (gI S p1 2) (gI S p1 4) (gI S p1 5) 0 S).bind fun q21 => ((f_X2_stakeAt 78 q21.1 q21.2).bind fun q30 => (if q30.1 = 0 then (f_X5_doDrop_49  q30.2) else ((f_X5_isLocked (gI q30.2 p1 2) q30.2).bind fun q43 => (if q43.1 = 0 then (if kd q30.1 = (6, 8) then ((f_X2_withdraw 78 q21.1 (gI q43.2 q30.1 5) q43.2).bind fun q60 => (some (1, q60.2))) else none) else (f_X5_doDrop_49  q43.2)))))) else none)
set_option maxRecDepth 20000 in
theorem c_X5_doDrop {l : Launch} {Γ : GG} (hI : Inj Γ) {p1 : Nat} {S : Mem} {q : Int32 × Mem} (hf : f_X5_doDrop p1 S = some q) : MM l Γ yX5_doDrop cX5_doDrop 4 (some .boolean) 3 91 [aR 9, aR p1] S (some (aI q.1)) q.2 := by
  refine met_of hI "TickPools$Runner" rfl (by decide +kernel) (Nat.le_of_ble_eq_true rfl) (fun X hX C hr => ?_)
  unfold f_X5_doDrop at hf
  show ZZ X Γ 4 _ S 0 [(0, aR 9), (1, aR p1)] []
  refine z_aload_n (j := 0) C d_X5_doDrop_0 rfl ?_
  refine zg_X5_market C rfl tw_384 d_X5_doDrop_1 ?_
  refine z_aload_n (j := 0) C d_X5_doDrop_4 rfl ?_
  refine zg_X5_person C rfl tw_387 d_X5_doDrop_5 ?_
  refine z_aload_n (j := 1) C d_X5_doDrop_8 rfl ?_
  obtain ⟨hg9_0, hf⟩ := gd hf
  refine zg_X8_pool C hg9_0 tw_320 d_X5_doDrop_9 ?_
  refine z_aload_n (j := 1) C d_X5_doDrop_12 rfl ?_
  refine zg_X8_low C hg9_0 tw_324 d_X5_doDrop_13 ?_
  refine z_aload_n (j := 1) C d_X5_doDrop_16 rfl ?_
  refine zg_X8_high C hg9_0 tw_326 d_X5_doDrop_17 ?_
  refine z_iconst (v := 0) C d_X5_doDrop_20 (by decide) ?_
  obtain ⟨q21, hF, hf⟩ := bd hf
  refine z_callV1 (rest := []) C [aI (gI S 9 5), aI (gI S p1 2), aI (gI S p1 4), aI (gI S p1 5), aI 0] rfl (by decide) rfl rfl k_X2_findStake tw_981 ⟨by decide, by decide⟩ (Nat.le_of_ble_eq_true rfl) d_X5_doDrop_21 (c_X2_findStake C.inj hF) rfl ?_
  refine z_istore_n (lv' := [(2, aI q21.1), (0, aR 9), (1, aR p1)]) C d_X5_doDrop_24 (by decide) rfl ?_
  refine z_aload_n (j := 1) C d_X5_doDrop_25 rfl ?_
  refine zg_X5_market C rfl tw_384 d_X5_doDrop_26 ?_
  refine z_iload_n (j := 0) C d_X5_doDrop_29 rfl ?_
  obtain ⟨q30, hF, hf⟩ := bd hf
  refine z_callV1 (rest := []) C [aI q21.1] rfl (by decide) rfl rfl k_X2_stakeAt tw_982 ⟨by decide, by decide⟩ (Nat.le_of_ble_eq_true rfl) d_X5_doDrop_30 (c_X2_stakeAt C.inj hF) rfl ?_
  refine z_astore_n (lv' := [(3, aR q30.1), (2, aI q21.1), (0, aR 9), (1, aR p1)]) C d_X5_doDrop_33 (by decide) rfl ?_
  refine z_aload_n (j := 0) C d_X5_doDrop_34 rfl ?_
  refine z_ifnull (tgt := 49) C d_X5_doDrop_35 (by decide) hf (fun c35 hf => ?_) (fun c35 hf => ?_)
  · exact z_sub [] rfl (t_X5_doDrop_49 C hr  _ hf)
  · refine z_aload_n (j := 2) C d_X5_doDrop_38 rfl ?_
    refine z_aload_n (j := 3) C d_X5_doDrop_39 rfl ?_
    refine zg_X8_pool C hg9_0 tw_320 d_X5_doDrop_40 ?_
    obtain ⟨q43, hF, hf⟩ := bd hf
    refine z_callV1 (rest := []) C [aI (gI q30.2 p1 2)] rfl (by decide) rfl rfl k_X5_isLocked tw_825 ⟨by decide, by decide⟩ (Nat.le_of_ble_eq_true rfl) d_X5_doDrop_43 (c_X5_isLocked C.inj hF) rfl ?_
    refine z_if_eq (tgt := 51) C d_X5_doDrop_46 (by decide) hf (fun c46 hf => ?_) (fun c46 hf => ?_)
    · refine z_aload_n (j := 2) C d_X5_doDrop_51 rfl ?_
      refine zg_X5_market C rfl tw_384 d_X5_doDrop_52 ?_
      refine z_iload_n (j := 1) C d_X5_doDrop_55 rfl ?_
      refine z_aload_n (j := 0) C d_X5_doDrop_56 rfl ?_
      obtain ⟨hg57_1, hf⟩ := gd hf
      refine zg_X7_liquidity C hg57_1 tw_165 d_X5_doDrop_57 ?_
      obtain ⟨q60, hF, hf⟩ := bd hf
      refine z_callV0 (rest := []) C [aI q21.1, aI (gI q43.2 q30.1 5)] rfl (by decide) rfl rfl k_X2_withdraw tw_983 ⟨by decide, by decide⟩ (Nat.le_of_ble_eq_true rfl) d_X5_doDrop_60 (c_X2_withdraw C.inj hF) rfl ?_
      refine z_iconst (v := 1) C d_X5_doDrop_63 (by decide) ?_
      exact r_i C hr (by decide) d_X5_doDrop_64 hf
    · exact z_sub [] rfl (t_X5_doDrop_49 C hr  _ hf)
theorem d_X5_canOpen_0 : decode cX5_canOpen 0 = .ok (.aload_n 0, 1) := by decide +kernel
theorem d_X5_canOpen_1 : decode cX5_canOpen 1 = .ok (.getfield 52, 3) := by decide +kernel
theorem d_X5_canOpen_4 : decode cX5_canOpen 4 = .ok (.ifCond .lt 19, 3) := by decide +kernel
theorem d_X5_canOpen_7 : decode cX5_canOpen 7 = .ok (.aload_n 0, 1) := by decide +kernel
theorem d_X5_canOpen_8 : decode cX5_canOpen 8 = .ok (.getfield 52, 3) := by decide +kernel
theorem d_X5_canOpen_11 : decode cX5_canOpen 11 = .ok (.aload_n 0, 1) := by decide +kernel
theorem d_X5_canOpen_12 : decode cX5_canOpen 12 = .ok (.getfield 25, 3) := by decide +kernel
theorem d_X5_canOpen_15 : decode cX5_canOpen 15 = .ok (.arraylength, 1) := by decide +kernel
theorem d_X5_canOpen_16 : decode cX5_canOpen 16 = .ok (.if_icmp .ge 7, 3) := by decide +kernel
theorem d_X5_canOpen_19 : decode cX5_canOpen 19 = .ok (.iconst 1, 1) := by decide +kernel
theorem d_X5_canOpen_20 : decode cX5_canOpen 20 = .ok (.goto 4, 3) := by decide +kernel
theorem d_X5_canOpen_23 : decode cX5_canOpen 23 = .ok (.iconst 0, 1) := by decide +kernel
theorem d_X5_canOpen_24 : decode cX5_canOpen 24 = .ok (.ireturn, 1) := by decide +kernel
def f_X5_canOpen_24 (s0 : Int32) (S : Mem) : Option (Int32 × Mem) := (if isB s0 = true then (some (s0, S)) else none)
set_option maxRecDepth 20000 in
theorem t_X5_canOpen_24 {X : MC} {Γ : GG} (C : CX X Γ cX5_canOpen 1 "TickPools$Runner" 0 0) (hr : X.2.2.2.2.2.2.2.2.1.sig.returnType = some .boolean) {q : Int32 × Mem} (s0 : Int32) (S : Mem) (hf : f_X5_canOpen_24 s0 S = some q) : ZZ X Γ 1 (QQ X Γ (some (aI q.1)) q.2) S 24 [] [aI s0] := by
  unfold f_X5_canOpen_24 at hf
  obtain ⟨hb24_0, hf⟩ := gd hf
  exact r_i C hr (isB_nar hb24_0).1 d_X5_canOpen_24 hf
def f_X5_canOpen_23 (S : Mem) : Option (Int32 × Mem) := (f_X5_canOpen_24  0 S)
set_option maxRecDepth 20000 in
theorem t_X5_canOpen_23 {X : MC} {Γ : GG} (C : CX X Γ cX5_canOpen 1 "TickPools$Runner" 0 0) (hr : X.2.2.2.2.2.2.2.2.1.sig.returnType = some .boolean) {q : Int32 × Mem} (S : Mem) (hf : f_X5_canOpen_23 S = some q) : ZZ X Γ 1 (QQ X Γ (some (aI q.1)) q.2) S 23 [] [] := by
  unfold f_X5_canOpen_23 at hf
  refine z_iconst (v := 0) C d_X5_canOpen_23 (by decide) ?_
  exact z_sub [] rfl (t_X5_canOpen_24 C hr  _ _ hf)
/-- TickPools$Runner.canOpen()Z -/
def f_X5_canOpen (S : Mem) : Option (Int32 × Mem) := (if (gI S 9 7) < 0 then (f_X5_canOpen_23  S) else (if 4 ≤ (gI S 9 7) then (f_X5_canOpen_23  S) else (f_X5_canOpen_24  1 S)))
set_option maxRecDepth 20000 in
theorem c_X5_canOpen {l : Launch} {Γ : GG} (hI : Inj Γ) {S : Mem} {q : Int32 × Mem} (hf : f_X5_canOpen S = some q) : MM l Γ yX5_canOpen cX5_canOpen 1 (some .boolean) 0 0 [aR 9] S (some (aI q.1)) q.2 := by
  refine met_of hI "TickPools$Runner" rfl (by decide +kernel) (Nat.le_of_ble_eq_true rfl) (fun X hX C hr => ?_)
  unfold f_X5_canOpen at hf
  show ZZ X Γ 1 _ S 0 [(0, aR 9)] []
  refine z_aload_n (j := 0) C d_X5_canOpen_0 rfl ?_
  refine zg_X5_deep C rfl tw_389 d_X5_canOpen_1 ?_
  refine z_if_lt (tgt := 23) C d_X5_canOpen_4 (by decide) hf (fun c4 hf => ?_) (fun c4 hf => ?_)
  · exact z_sub [] rfl (t_X5_canOpen_23 C hr  _ hf)
  · refine z_aload_n (j := 0) C d_X5_canOpen_7 rfl ?_
    refine zg_X5_deep C rfl tw_389 d_X5_canOpen_8 ?_
    refine z_aload_n (j := 0) C d_X5_canOpen_11 rfl ?_
    refine zg_X5_open C rfl tw_391 d_X5_canOpen_12 ?_
    refine z_alen (v := 4) C rfl (by decide) (by decide) d_X5_canOpen_15 ?_
    refine z_icmp_ge (tgt := 23) C d_X5_canOpen_16 (by decide) hf (fun c16 hf => ?_) (fun c16 hf => ?_)
    · exact z_sub [] rfl (t_X5_canOpen_23 C hr  _ hf)
    · refine z_iconst (v := 1) C d_X5_canOpen_19 (by decide) ?_
      refine z_goto (tgt := 24) C d_X5_canOpen_20 (by decide) ?_
      exact z_sub [] rfl (t_X5_canOpen_24 C hr  _ _ hf)
theorem d_X5_openBracket_0 : decode cX5_openBracket 0 = .ok (.aload_n 0, 1) := by decide +kernel
theorem d_X5_openBracket_1 : decode cX5_openBracket 1 = .ok (.invokevirtual 204, 3) := by decide +kernel
theorem d_X5_openBracket_4 : decode cX5_openBracket 4 = .ok (.ifCond .eq 48, 3) := by decide +kernel
theorem d_X5_openBracket_7 : decode cX5_openBracket 7 = .ok (.aload_n 0, 1) := by decide +kernel
theorem d_X5_openBracket_8 : decode cX5_openBracket 8 = .ok (.getfield 25, 3) := by decide +kernel
theorem d_X5_openBracket_11 : decode cX5_openBracket 11 = .ok (.aload_n 0, 1) := by decide +kernel
theorem d_X5_openBracket_12 : decode cX5_openBracket 12 = .ok (.getfield 52, 3) := by decide +kernel
theorem d_X5_openBracket_15 : decode cX5_openBracket 15 = .ok (.aload_n 0, 1) := by decide +kernel
theorem d_X5_openBracket_16 : decode cX5_openBracket 16 = .ok (.getfield 49, 3) := by decide +kernel
theorem d_X5_openBracket_19 : decode cX5_openBracket 19 = .ok (.iconst 1, 1) := by decide +kernel
theorem d_X5_openBracket_20 : decode cX5_openBracket 20 = .ok (.isub, 1) := by decide +kernel
theorem d_X5_openBracket_21 : decode cX5_openBracket 21 = .ok (.iastore, 1) := by decide +kernel
theorem d_X5_openBracket_22 : decode cX5_openBracket 22 = .ok (.aload_n 0, 1) := by decide +kernel
theorem d_X5_openBracket_23 : decode cX5_openBracket 23 = .ok (.getfield 29, 3) := by decide +kernel
theorem d_X5_openBracket_26 : decode cX5_openBracket 26 = .ok (.aload_n 0, 1) := by decide +kernel
theorem d_X5_openBracket_27 : decode cX5_openBracket 27 = .ok (.getfield 52, 3) := by decide +kernel
theorem d_X5_openBracket_30 : decode cX5_openBracket 30 = .ok (.iload_n 1, 1) := by decide +kernel
theorem d_X5_openBracket_31 : decode cX5_openBracket 31 = .ok (.iastore, 1) := by decide +kernel
theorem d_X5_openBracket_32 : decode cX5_openBracket 32 = .ok (.aload_n 0, 1) := by decide +kernel
theorem d_X5_openBracket_33 : decode cX5_openBracket 33 = .ok (.getfield 32, 3) := by decide +kernel
theorem d_X5_openBracket_36 : decode cX5_openBracket 36 = .ok (.aload_n 0, 1) := by decide +kernel
theorem d_X5_openBracket_37 : decode cX5_openBracket 37 = .ok (.getfield 52, 3) := by decide +kernel
theorem d_X5_openBracket_40 : decode cX5_openBracket 40 = .ok (.iload_n 2, 1) := by decide +kernel
theorem d_X5_openBracket_41 : decode cX5_openBracket 41 = .ok (.iastore, 1) := by decide +kernel
theorem d_X5_openBracket_42 : decode cX5_openBracket 42 = .ok (.aload_n 0, 1) := by decide +kernel
theorem d_X5_openBracket_43 : decode cX5_openBracket 43 = .ok (.dup, 1) := by decide +kernel
theorem d_X5_openBracket_44 : decode cX5_openBracket 44 = .ok (.getfield 52, 3) := by decide +kernel
theorem d_X5_openBracket_47 : decode cX5_openBracket 47 = .ok (.iconst 1, 1) := by decide +kernel
theorem d_X5_openBracket_48 : decode cX5_openBracket 48 = .ok (.iadd, 1) := by decide +kernel
theorem d_X5_openBracket_49 : decode cX5_openBracket 49 = .ok (.putfield 52, 3) := by decide +kernel
theorem d_X5_openBracket_52 : decode cX5_openBracket 52 = .ok (.return_, 1) := by decide +kernel
def f_X5_openBracket_52 (S : Mem) : Option (Unit × Mem) := (some ((), S))
set_option maxRecDepth 20000 in
theorem t_X5_openBracket_52 {X : MC} {Γ : GG} (C : CX X Γ cX5_openBracket 3 "TickPools$Runner" 1 20) (hr : X.2.2.2.2.2.2.2.2.1.sig.returnType = none) {q : Unit × Mem} (S : Mem) (hf : f_X5_openBracket_52 S = some q) : ZZ X Γ 3 (QQ X Γ none q.2) S 52 [] [] := by
  unfold f_X5_openBracket_52 at hf
  exact r_v C hr d_X5_openBracket_52 hf
def f_X5_openBracket_42 (S : Mem) : Option (Unit × Mem) := (f_X5_openBracket_52  (sI S 9 7 ((gI S 9 7) + 1)))
set_option maxRecDepth 20000 in
theorem t_X5_openBracket_42 {X : MC} {Γ : GG} (C : CX X Γ cX5_openBracket 3 "TickPools$Runner" 1 20) (hr : X.2.2.2.2.2.2.2.2.1.sig.returnType = none) {q : Unit × Mem} (S : Mem) (hf : f_X5_openBracket_42 S = some q) : ZZ X Γ 3 (QQ X Γ none q.2) S 42 [(0, aR 9)] [] := by
  unfold f_X5_openBracket_42 at hf
  refine z_aload_n (j := 0) C d_X5_openBracket_42 rfl ?_
  refine z_dup C d_X5_openBracket_43 rfl ?_
  refine zg_X5_deep C rfl tw_389 d_X5_openBracket_44 ?_
  refine z_iconst (v := 1) C d_X5_openBracket_47 (by decide) ?_
  refine z_iadd C d_X5_openBracket_48 ?_
  refine zp_X5_deep C rfl tw_389 d_X5_openBracket_49 ?_
  exact z_sub [] rfl (t_X5_openBracket_52 C hr  _ hf)
/-- TickPools$Runner.openBracket(II)V -/
def f_X5_openBracket (p1 : Int32) (p2 : Int32) (S : Mem) : Option (Unit × Mem) := ((f_X5_canOpen S).bind fun q1 => (if q1.1 = 0 then (f_X5_openBracket_52  q1.2) else (if inb (gI q1.2 9 7) 4 = true then (if inb (gI (sI q1.2 10 (((gI q1.2 9 7) : Int32).toNatClampNeg) ((gI q1.2 9 6) - 1)) 9 7) 4 = true then (if inb (gI (sI (sI q1.2 10 (((gI q1.2 9 7) : Int32).toNatClampNeg) ((gI q1.2 9 6) - 1)) 11 (((gI (sI q1.2 10 (((gI q1.2 9 7) : Int32).toNatClampNeg) ((gI q1.2 9 6) - 1)) 9 7) : Int32).toNatClampNeg) p1) 9 7) 4 = true then (f_X5_openBracket_42  (sI (sI (sI q1.2 10 (((gI q1.2 9 7) : Int32).toNatClampNeg) ((gI q1.2 9 6) - 1)) 11 (((gI (sI q1.2 10 (((gI q1.2 9 7) : Int32).toNatClampNeg) ((gI q1.2 9 6) - 1)) 9 7) : Int32).toNatClampNeg) p1) 12 (((gI (sI (sI q1.2 10 (((gI q1.2 9 7) : Int32).toNatClampNeg) ((gI q1.2 9 6) - 1)) 11 (((gI (sI q1.2 10 (((gI q1.2 9 7) : Int32).toNatClampNeg) ((gI q1.2 9 6) - 1)) 9 7) : Int32).toNatClampNeg) p1) 9 7) : Int32).toNatClampNeg) p2)) else none) else none) else none)))
set_option maxRecDepth 20000 in
theorem c_X5_openBracket {l : Launch} {Γ : GG} (hI : Inj Γ) {p1 : Int32} {p2 : Int32} {S : Mem} {q : Unit × Mem} (hf : f_X5_openBracket p1 p2 S = some q) : MM l Γ yX5_openBracket cX5_openBracket 3 (none) 1 20 [aR 9, aI p1, aI p2] S none q.2 := by
  refine met_of hI "TickPools$Runner" rfl (by decide +kernel) (Nat.le_of_ble_eq_true rfl) (fun X hX C hr => ?_)
  unfold f_X5_openBracket at hf
  show ZZ X Γ 3 _ S 0 [(0, aR 9), (1, aI p1), (2, aI p2)] []
  refine z_aload_n (j := 0) C d_X5_openBracket_0 rfl ?_
  obtain ⟨q1, hF, hf⟩ := bd hf
  refine z_callV1 (rest := []) C [] rfl (by decide) rfl rfl k_X5_canOpen tw_993 ⟨by decide, by decide⟩ (Nat.le_of_ble_eq_true rfl) d_X5_openBracket_1 (c_X5_canOpen C.inj hF) rfl ?_
  refine z_if_eq (tgt := 52) C d_X5_openBracket_4 (by decide) hf (fun c4 hf => ?_) (fun c4 hf => ?_)
  · exact z_sub [] rfl (t_X5_openBracket_52 C hr  _ hf)
  · refine z_aload_n (j := 0) C d_X5_openBracket_7 rfl ?_
    refine zg_X5_open C rfl tw_391 d_X5_openBracket_8 ?_
    refine z_aload_n (j := 0) C d_X5_openBracket_11 rfl ?_
    refine zg_X5_deep C rfl tw_389 d_X5_openBracket_12 ?_
    refine z_aload_n (j := 0) C d_X5_openBracket_15 rfl ?_
    refine zg_X5_at C rfl tw_388 d_X5_openBracket_16 ?_
    refine z_iconst (v := 1) C d_X5_openBracket_19 (by decide) ?_
    refine z_isub C d_X5_openBracket_20 ?_
    obtain ⟨hi21_0, hf⟩ := gd hf
    refine z_iast C rfl hi21_0 d_X5_openBracket_21 ?_
    refine z_aload_n (j := 0) C d_X5_openBracket_22 rfl ?_
    refine zg_X5_rounds C rfl tw_392 d_X5_openBracket_23 ?_
    refine z_aload_n (j := 0) C d_X5_openBracket_26 rfl ?_
    refine zg_X5_deep C rfl tw_389 d_X5_openBracket_27 ?_
    refine z_iload_n (j := 1) C d_X5_openBracket_30 rfl ?_
    obtain ⟨hi31_1, hf⟩ := gd hf
    refine z_iast C rfl hi31_1 d_X5_openBracket_31 ?_
    refine z_aload_n (j := 0) C d_X5_openBracket_32 rfl ?_
    refine zg_X5_lent C rfl tw_393 d_X5_openBracket_33 ?_
    refine z_aload_n (j := 0) C d_X5_openBracket_36 rfl ?_
    refine zg_X5_deep C rfl tw_389 d_X5_openBracket_37 ?_
    refine z_iload_n (j := 2) C d_X5_openBracket_40 rfl ?_
    obtain ⟨hi41_2, hf⟩ := gd hf
    refine z_iast C rfl hi41_2 d_X5_openBracket_41 ?_
    exact z_sub [0] rfl (t_X5_openBracket_42 C hr  _ hf)
theorem d_X5_doLend_0 : decode cX5_doLend 0 = .ok (.aload_n 0, 1) := by decide +kernel
theorem d_X5_doLend_1 : decode cX5_doLend 1 = .ok (.getfield 9, 3) := by decide +kernel
theorem d_X5_doLend_4 : decode cX5_doLend 4 = .ok (.aload_n 1, 1) := by decide +kernel
theorem d_X5_doLend_5 : decode cX5_doLend 5 = .ok (.getfield 89, 3) := by decide +kernel
theorem d_X5_doLend_8 : decode cX5_doLend 8 = .ok (.invokevirtual 136, 3) := by decide +kernel
theorem d_X5_doLend_11 : decode cX5_doLend 11 = .ok (.astore_n 2, 1) := by decide +kernel
theorem d_X5_doLend_12 : decode cX5_doLend 12 = .ok (.aload_n 2, 1) := by decide +kernel
theorem d_X5_doLend_13 : decode cX5_doLend 13 = .ok (.ifnull 34, 3) := by decide +kernel
theorem d_X5_doLend_16 : decode cX5_doLend 16 = .ok (.aload_n 0, 1) := by decide +kernel
theorem d_X5_doLend_17 : decode cX5_doLend 17 = .ok (.aload_n 1, 1) := by decide +kernel
theorem d_X5_doLend_18 : decode cX5_doLend 18 = .ok (.getfield 89, 3) := by decide +kernel
theorem d_X5_doLend_21 : decode cX5_doLend 21 = .ok (.invokevirtual 92, 3) := by decide +kernel
theorem d_X5_doLend_24 : decode cX5_doLend 24 = .ok (.ifCond .ne 23, 3) := by decide +kernel
theorem d_X5_doLend_27 : decode cX5_doLend 27 = .ok (.aload_n 0, 1) := by decide +kernel
theorem d_X5_doLend_28 : decode cX5_doLend 28 = .ok (.getfield 9, 3) := by decide +kernel
theorem d_X5_doLend_31 : decode cX5_doLend 31 = .ok (.aload_n 1, 1) := by decide +kernel
theorem d_X5_doLend_32 : decode cX5_doLend 32 = .ok (.getfield 89, 3) := by decide +kernel
theorem d_X5_doLend_35 : decode cX5_doLend 35 = .ok (.aload_n 2, 1) := by decide +kernel
theorem d_X5_doLend_36 : decode cX5_doLend 36 = .ok (.getfield 197, 3) := by decide +kernel
theorem d_X5_doLend_39 : decode cX5_doLend 39 = .ok (.invokevirtual 200, 3) := by decide +kernel
theorem d_X5_doLend_42 : decode cX5_doLend 42 = .ok (.lconst 1, 1) := by decide +kernel
theorem d_X5_doLend_43 : decode cX5_doLend 43 = .ok (.lcmp, 1) := by decide +kernel
theorem d_X5_doLend_44 : decode cX5_doLend 44 = .ok (.ifCond .ge 5, 3) := by decide +kernel
theorem d_X5_doLend_47 : decode cX5_doLend 47 = .ok (.iconst 0, 1) := by decide +kernel
theorem d_X5_doLend_48 : decode cX5_doLend 48 = .ok (.ireturn, 1) := by decide +kernel
theorem d_X5_doLend_49 : decode cX5_doLend 49 = .ok (.aload_n 2, 1) := by decide +kernel
theorem d_X5_doLend_50 : decode cX5_doLend 50 = .ok (.aload_n 1, 1) := by decide +kernel
theorem d_X5_doLend_51 : decode cX5_doLend 51 = .ok (.getfield 140, 3) := by decide +kernel
theorem d_X5_doLend_54 : decode cX5_doLend 54 = .ok (.invokevirtual 165, 3) := by decide +kernel
theorem d_X5_doLend_57 : decode cX5_doLend 57 = .ok (.istore_n 3, 1) := by decide +kernel
theorem d_X5_doLend_58 : decode cX5_doLend 58 = .ok (.aload_n 0, 1) := by decide +kernel
theorem d_X5_doLend_59 : decode cX5_doLend 59 = .ok (.aload_n 1, 1) := by decide +kernel
theorem d_X5_doLend_60 : decode cX5_doLend 60 = .ok (.iload_n 3, 1) := by decide +kernel
theorem d_X5_doLend_61 : decode cX5_doLend 61 = .ok (.invokevirtual 149, 3) := by decide +kernel
theorem d_X5_doLend_64 : decode cX5_doLend 64 = .ok (.lstore 4, 2) := by decide +kernel
theorem d_X5_doLend_66 : decode cX5_doLend 66 = .ok (.lload 4, 2) := by decide +kernel
theorem d_X5_doLend_68 : decode cX5_doLend 68 = .ok (.lconst 1, 1) := by decide +kernel
theorem d_X5_doLend_69 : decode cX5_doLend 69 = .ok (.lcmp, 1) := by decide +kernel
theorem d_X5_doLend_70 : decode cX5_doLend 70 = .ok (.ifCond .lt 18, 3) := by decide +kernel
theorem d_X5_doLend_73 : decode cX5_doLend 73 = .ok (.lload 4, 2) := by decide +kernel
theorem d_X5_doLend_75 : decode cX5_doLend 75 = .ok (.iload_n 3, 1) := by decide +kernel
theorem d_X5_doLend_76 : decode cX5_doLend 76 = .ok (.i2l, 1) := by decide +kernel
theorem d_X5_doLend_77 : decode cX5_doLend 77 = .ok (.lcmp, 1) := by decide +kernel
theorem d_X5_doLend_78 : decode cX5_doLend 78 = .ok (.ifCond .gt 10, 3) := by decide +kernel
theorem d_X5_doLend_81 : decode cX5_doLend 81 = .ok (.aload_n 0, 1) := by decide +kernel
theorem d_X5_doLend_82 : decode cX5_doLend 82 = .ok (.invokevirtual 204, 3) := by decide +kernel
theorem d_X5_doLend_85 : decode cX5_doLend 85 = .ok (.ifCond .ne 5, 3) := by decide +kernel
theorem d_X5_doLend_88 : decode cX5_doLend 88 = .ok (.iconst 0, 1) := by decide +kernel
theorem d_X5_doLend_89 : decode cX5_doLend 89 = .ok (.ireturn, 1) := by decide +kernel
theorem d_X5_doLend_90 : decode cX5_doLend 90 = .ok (.aload_n 0, 1) := by decide +kernel
theorem d_X5_doLend_91 : decode cX5_doLend 91 = .ok (.getfield 9, 3) := by decide +kernel
theorem d_X5_doLend_94 : decode cX5_doLend 94 = .ok (.aload_n 2, 1) := by decide +kernel
theorem d_X5_doLend_95 : decode cX5_doLend 95 = .ok (.aload_n 1, 1) := by decide +kernel
theorem d_X5_doLend_96 : decode cX5_doLend 96 = .ok (.getfield 140, 3) := by decide +kernel
theorem d_X5_doLend_99 : decode cX5_doLend 99 = .ok (.aload_n 0, 1) := by decide +kernel
theorem d_X5_doLend_100 : decode cX5_doLend 100 = .ok (.getfield 39, 3) := by decide +kernel
theorem d_X5_doLend_103 : decode cX5_doLend 103 = .ok (.lload 4, 2) := by decide +kernel
theorem d_X5_doLend_105 : decode cX5_doLend 105 = .ok (.l2i, 1) := by decide +kernel
theorem d_X5_doLend_106 : decode cX5_doLend 106 = .ok (.invokevirtual 208, 3) := by decide +kernel
theorem d_X5_doLend_109 : decode cX5_doLend 109 = .ok (.aload_n 0, 1) := by decide +kernel
theorem d_X5_doLend_110 : decode cX5_doLend 110 = .ok (.aload_n 1, 1) := by decide +kernel
theorem d_X5_doLend_111 : decode cX5_doLend 111 = .ok (.getfield 89, 3) := by decide +kernel
theorem d_X5_doLend_114 : decode cX5_doLend 114 = .ok (.iconst 1, 1) := by decide +kernel
theorem d_X5_doLend_115 : decode cX5_doLend 115 = .ok (.invokevirtual 212, 3) := by decide +kernel
theorem d_X5_doLend_118 : decode cX5_doLend 118 = .ok (.aload_n 0, 1) := by decide +kernel
theorem d_X5_doLend_119 : decode cX5_doLend 119 = .ok (.iconst 0, 1) := by decide +kernel
theorem d_X5_doLend_120 : decode cX5_doLend 120 = .ok (.lload 4, 2) := by decide +kernel
theorem d_X5_doLend_122 : decode cX5_doLend 122 = .ok (.l2i, 1) := by decide +kernel
theorem d_X5_doLend_123 : decode cX5_doLend 123 = .ok (.invokevirtual 216, 3) := by decide +kernel
theorem d_X5_doLend_126 : decode cX5_doLend 126 = .ok (.iconst 1, 1) := by decide +kernel
theorem d_X5_doLend_127 : decode cX5_doLend 127 = .ok (.ireturn, 1) := by decide +kernel
def f_X5_doLend_47 (S : Mem) : Option (Int32 × Mem) := (some (0, S))
set_option maxRecDepth 20000 in
theorem t_X5_doLend_47 {X : MC} {Γ : GG} (C : CX X Γ cX5_doLend 6 "TickPools$Runner" 2 48) (hr : X.2.2.2.2.2.2.2.2.1.sig.returnType = some .boolean) {q : Int32 × Mem} (S : Mem) (hf : f_X5_doLend_47 S = some q) : ZZ X Γ 6 (QQ X Γ (some (aI q.1)) q.2) S 47 [] [] := by
  unfold f_X5_doLend_47 at hf
  refine z_iconst (v := 0) C d_X5_doLend_47 (by decide) ?_
  exact r_i C hr (by decide) d_X5_doLend_48 hf
def f_X5_doLend_88 (S : Mem) : Option (Int32 × Mem) := (some (0, S))
set_option maxRecDepth 20000 in
theorem t_X5_doLend_88 {X : MC} {Γ : GG} (C : CX X Γ cX5_doLend 6 "TickPools$Runner" 2 48) (hr : X.2.2.2.2.2.2.2.2.1.sig.returnType = some .boolean) {q : Int32 × Mem} (S : Mem) (hf : f_X5_doLend_88 S = some q) : ZZ X Γ 6 (QQ X Γ (some (aI q.1)) q.2) S 88 [] [] := by
  unfold f_X5_doLend_88 at hf
  refine z_iconst (v := 0) C d_X5_doLend_88 (by decide) ?_
  exact r_i C hr (by decide) d_X5_doLend_89 hf
/-- TickPools$Runner.doLend(LTickPools$Step;)Z -/
def f_X5_doLend (p1 : Nat) (S : Mem) : Option (Int32 × Mem) := (if kd p1 = (7, 10) then ((f_X2_poolAt 78 (gI S p1 2) S).bind fun q8 => (if q8.1 = 0 then (f_X5_doLend_47  q8.2) else ((f_X5_isLocked (gI q8.2 p1 2) q8.2).bind fun q21 => (if q21.1 = 0 then (if kd q8.1 = (3, 12) then ((f_X2_liquidityAt 78 (gI q21.2 p1 2) (gI q21.2 q8.1 6) q21.2).bind fun q39 => (if 1 ≤ q39.1 then ((f_X4_heldOn q8.1 (gI q39.2 p1 3) q39.2).bind fun q54 => ((f_X5_muchOf p1 q54.1 q54.2).bind fun q61 => (if q61.1 < 1 then (f_X5_doLend_88  q61.2) else (if (q54.1.toInt64) < q61.1 then (f_X5_doLend_88  q61.2) else ((f_X5_canOpen q61.2).bind fun q82 => (if q82.1 = 0 then (f_X5_doLend_88  q82.2) else ((f_X2_payOut 78 q8.1 (gI q82.2 p1 3) (gI q82.2 9 5) ((q61.1 : Int64).toInt32) q82.2).bind fun q106 => ((f_X5_setLocked (gI q106.2 p1 2) 1 q106.2).bind fun q115 => ((f_X5_openBracket 0 ((q61.1 : Int64).toInt32) q115.2).bind fun q123 => (some (1, q123.2))))))))))) else (f_X5_doLend_47  q39.2))) else none) else (f_X5_doLend_47  q21.2))))) else none)
set_option maxRecDepth 20000 in
theorem c_X5_doLend {l : Launch} {Γ : GG} (hI : Inj Γ) {p1 : Nat} {S : Mem} {q : Int32 × Mem} (hf : f_X5_doLend p1 S = some q) : MM l Γ yX5_doLend cX5_doLend 6 (some .boolean) 2 48 [aR 9, aR p1] S (some (aI q.1)) q.2 := by
  refine met_of hI "TickPools$Runner" rfl (by decide +kernel) (Nat.le_of_ble_eq_true rfl) (fun X hX C hr => ?_)
  unfold f_X5_doLend at hf
  show ZZ X Γ 6 _ S 0 [(0, aR 9), (1, aR p1)] []
  refine z_aload_n (j := 0) C d_X5_doLend_0 rfl ?_
  refine zg_X5_market C rfl tw_384 d_X5_doLend_1 ?_
  refine z_aload_n (j := 1) C d_X5_doLend_4 rfl ?_
  obtain ⟨hg5_0, hf⟩ := gd hf
  refine zg_X8_pool C hg5_0 tw_320 d_X5_doLend_5 ?_
  obtain ⟨q8, hF, hf⟩ := bd hf
  refine z_callV1 (rest := []) C [aI (gI S p1 2)] rfl (by decide) rfl rfl k_X2_poolAt tw_776 ⟨by decide, by decide⟩ (Nat.le_of_ble_eq_true rfl) d_X5_doLend_8 (c_X2_poolAt C.inj hF) rfl ?_
  refine z_astore_n (lv' := [(2, aR q8.1), (0, aR 9), (1, aR p1)]) C d_X5_doLend_11 (by decide) rfl ?_
  refine z_aload_n (j := 0) C d_X5_doLend_12 rfl ?_
  refine z_ifnull (tgt := 47) C d_X5_doLend_13 (by decide) hf (fun c13 hf => ?_) (fun c13 hf => ?_)
  · exact z_sub [] rfl (t_X5_doLend_47 C hr  _ hf)
  · refine z_aload_n (j := 1) C d_X5_doLend_16 rfl ?_
    refine z_aload_n (j := 2) C d_X5_doLend_17 rfl ?_
    refine zg_X8_pool C hg5_0 tw_320 d_X5_doLend_18 ?_
    obtain ⟨q21, hF, hf⟩ := bd hf
    refine z_callV1 (rest := []) C [aI (gI q8.2 p1 2)] rfl (by decide) rfl rfl k_X5_isLocked tw_825 ⟨by decide, by decide⟩ (Nat.le_of_ble_eq_true rfl) d_X5_doLend_21 (c_X5_isLocked C.inj hF) rfl ?_
    refine z_if_ne (tgt := 47) C d_X5_doLend_24 (by decide) hf (fun c24 hf => ?_) (fun c24 hf => ?_)
    · exact z_sub [] rfl (t_X5_doLend_47 C hr  _ hf)
    · refine z_aload_n (j := 1) C d_X5_doLend_27 rfl ?_
      refine zg_X5_market C rfl tw_384 d_X5_doLend_28 ?_
      refine z_aload_n (j := 2) C d_X5_doLend_31 rfl ?_
      refine zg_X8_pool C hg5_0 tw_320 d_X5_doLend_32 ?_
      refine z_aload_n (j := 0) C d_X5_doLend_35 rfl ?_
      obtain ⟨hg36_1, hf⟩ := gd hf
      refine zg_X4_zone C hg36_1 tw_103 d_X5_doLend_36 ?_
      obtain ⟨q39, hF, hf⟩ := bd hf
      refine z_callV1 (rest := []) C [aI (gI q21.2 p1 2), aI (gI q21.2 q8.1 6)] rfl (by decide) rfl rfl k_X2_liquidityAt tw_992 ⟨by decide, by decide⟩ (Nat.le_of_ble_eq_true rfl) d_X5_doLend_39 (c_X2_liquidityAt C.inj hF) rfl ?_
      refine z_lconst (v := 1) C d_X5_doLend_42 (by decide) ?_
      refine z_lge (tgt := 49) C d_X5_doLend_43 d_X5_doLend_44 (by decide) hf (fun c43 hf => ?_) (fun c43 hf => ?_)
      · refine z_aload_n (j := 0) C d_X5_doLend_49 rfl ?_
        refine z_aload_n (j := 2) C d_X5_doLend_50 rfl ?_
        refine zg_X8_side C hg5_0 tw_323 d_X5_doLend_51 ?_
        obtain ⟨q54, hF, hf⟩ := bd hf
        refine z_callV1 (rest := []) C [aI (gI q39.2 p1 3)] hg36_1 (by decide) rfl rfl k_X4_heldOn tw_936 ⟨by decide, by decide⟩ (Nat.le_of_ble_eq_true rfl) d_X5_doLend_54 (c_X4_heldOn C.inj hF) rfl ?_
        refine z_istore_n (lv' := [(3, aI q54.1), (2, aR q8.1), (0, aR 9), (1, aR p1)]) C d_X5_doLend_57 (by decide) rfl ?_
        refine z_aload_n (j := 2) C d_X5_doLend_58 rfl ?_
        refine z_aload_n (j := 3) C d_X5_doLend_59 rfl ?_
        refine z_iload_n (j := 0) C d_X5_doLend_60 rfl ?_
        obtain ⟨q61, hF, hf⟩ := bd hf
        refine z_callV1 (rest := []) C [aR p1, aI q54.1] rfl (by decide) rfl rfl k_X5_muchOf tw_829 ⟨by decide, by decide⟩ (Nat.le_of_ble_eq_true rfl) d_X5_doLend_61 (c_X5_muchOf C.inj hF) rfl ?_
        refine z_lstore (lv' := [(4, aJ q61.1), (3, aI q54.1), (2, aR q8.1), (0, aR 9), (1, aR p1)]) C d_X5_doLend_64 (by decide) rfl ?_
        refine z_lload (j := 0) C d_X5_doLend_66 rfl ?_
        refine z_lconst (v := 1) C d_X5_doLend_68 (by decide) ?_
        refine z_llt (tgt := 88) C d_X5_doLend_69 d_X5_doLend_70 (by decide) hf (fun c69 hf => ?_) (fun c69 hf => ?_)
        · exact z_sub [] rfl (t_X5_doLend_88 C hr  _ hf)
        · refine z_lload (j := 0) C d_X5_doLend_73 rfl ?_
          refine z_iload_n (j := 1) C d_X5_doLend_75 rfl ?_
          refine z_i2l C d_X5_doLend_76 ?_
          refine z_lgt (tgt := 88) C d_X5_doLend_77 d_X5_doLend_78 (by decide) hf (fun c77 hf => ?_) (fun c77 hf => ?_)
          · exact z_sub [] rfl (t_X5_doLend_88 C hr  _ hf)
          · refine z_aload_n (j := 3) C d_X5_doLend_81 rfl ?_
            obtain ⟨q82, hF, hf⟩ := bd hf
            refine z_callV1 (rest := []) C [] rfl (by decide) rfl rfl k_X5_canOpen tw_993 ⟨by decide, by decide⟩ (Nat.le_of_ble_eq_true rfl) d_X5_doLend_82 (c_X5_canOpen C.inj hF) rfl ?_
            refine z_if_ne (tgt := 90) C d_X5_doLend_85 (by decide) hf (fun c85 hf => ?_) (fun c85 hf => ?_)
            · refine z_aload_n (j := 3) C d_X5_doLend_90 rfl ?_
              refine zg_X5_market C rfl tw_384 d_X5_doLend_91 ?_
              refine z_aload_n (j := 2) C d_X5_doLend_94 rfl ?_
              refine z_aload_n (j := 4) C d_X5_doLend_95 rfl ?_
              refine zg_X8_side C hg5_0 tw_323 d_X5_doLend_96 ?_
              refine z_aload_n (j := 3) C d_X5_doLend_99 rfl ?_
              refine zg_X5_person C rfl tw_387 d_X5_doLend_100 ?_
              refine z_lload (j := 0) C d_X5_doLend_103 rfl ?_
              refine z_l2i C d_X5_doLend_105 ?_
              obtain ⟨q106, hF, hf⟩ := bd hf
              refine z_callV0 (rest := []) C [aR q8.1, aI (gI q82.2 p1 3), aI (gI q82.2 9 5), aI ((q61.1 : Int64).toInt32)] rfl (by decide) rfl rfl k_X2_payOut tw_797 ⟨by decide, by decide⟩ (Nat.le_of_ble_eq_true rfl) d_X5_doLend_106 (c_X2_payOut C.inj hF) rfl ?_
              refine z_aload_n (j := 3) C d_X5_doLend_109 rfl ?_
              refine z_aload_n (j := 4) C d_X5_doLend_110 rfl ?_
              refine zg_X8_pool C hg5_0 tw_320 d_X5_doLend_111 ?_
              refine z_iconst (v := 1) C d_X5_doLend_114 (by decide) ?_
              obtain ⟨q115, hF, hf⟩ := bd hf
              refine z_callV0 (rest := []) C [aI (gI q106.2 p1 2), aI 1] rfl (by decide) rfl rfl k_X5_setLocked tw_780 ⟨by decide, by decide⟩ (Nat.le_of_ble_eq_true rfl) d_X5_doLend_115 (c_X5_setLocked C.inj hF) rfl ?_
              refine z_aload_n (j := 3) C d_X5_doLend_118 rfl ?_
              refine z_iconst (v := 0) C d_X5_doLend_119 (by decide) ?_
              refine z_lload (j := 0) C d_X5_doLend_120 rfl ?_
              refine z_l2i C d_X5_doLend_122 ?_
              obtain ⟨q123, hF, hf⟩ := bd hf
              refine z_callV0 (rest := []) C [aI 0, aI ((q61.1 : Int64).toInt32)] rfl (by decide) rfl rfl k_X5_openBracket tw_997 ⟨by decide, by decide⟩ (Nat.le_of_ble_eq_true rfl) d_X5_doLend_123 (c_X5_openBracket C.inj hF) rfl ?_
              refine z_iconst (v := 1) C d_X5_doLend_126 (by decide) ?_
              exact r_i C hr (by decide) d_X5_doLend_127 hf
            · exact z_sub [] rfl (t_X5_doLend_88 C hr  _ hf)
      · exact z_sub [] rfl (t_X5_doLend_47 C hr  _ hf)
theorem d_X5_doTimes_0 : decode cX5_doTimes 0 = .ok (.aload_n 1, 1) := by decide +kernel
theorem d_X5_doTimes_1 : decode cX5_doTimes 1 = .ok (.getfield 102, 3) := by decide +kernel
theorem d_X5_doTimes_4 : decode cX5_doTimes 4 = .ok (.iconst 1, 1) := by decide +kernel
theorem d_X5_doTimes_5 : decode cX5_doTimes 5 = .ok (.if_icmp .ge 13, 3) := by decide +kernel
theorem d_X5_doTimes_8 : decode cX5_doTimes 8 = .ok (.aload_n 0, 1) := by decide +kernel
theorem d_X5_doTimes_9 : decode cX5_doTimes 9 = .ok (.aload_n 1, 1) := by decide +kernel
theorem d_X5_doTimes_10 : decode cX5_doTimes 10 = .ok (.getfield 66, 3) := by decide +kernel
theorem d_X5_doTimes_13 : decode cX5_doTimes 13 = .ok (.putfield 49, 3) := by decide +kernel
theorem d_X5_doTimes_16 : decode cX5_doTimes 16 = .ok (.iconst 1, 1) := by decide +kernel
theorem d_X5_doTimes_17 : decode cX5_doTimes 17 = .ok (.ireturn, 1) := by decide +kernel
theorem d_X5_doTimes_18 : decode cX5_doTimes 18 = .ok (.aload_n 0, 1) := by decide +kernel
theorem d_X5_doTimes_19 : decode cX5_doTimes 19 = .ok (.aload_n 1, 1) := by decide +kernel
theorem d_X5_doTimes_20 : decode cX5_doTimes 20 = .ok (.getfield 102, 3) := by decide +kernel
theorem d_X5_doTimes_23 : decode cX5_doTimes 23 = .ok (.iconst 0, 1) := by decide +kernel
theorem d_X5_doTimes_24 : decode cX5_doTimes 24 = .ok (.invokevirtual 216, 3) := by decide +kernel
theorem d_X5_doTimes_27 : decode cX5_doTimes 27 = .ok (.iconst 1, 1) := by decide +kernel
theorem d_X5_doTimes_28 : decode cX5_doTimes 28 = .ok (.ireturn, 1) := by decide +kernel
/-- TickPools$Runner.doTimes(LTickPools$Step;)Z -/
def f_X5_doTimes (p1 : Nat) (S : Mem) : Option (Int32 × Mem) := (if kd p1 = (7, 10) then (if 1 ≤ (gI S p1 7) then ((f_X5_openBracket (gI S p1 7) 0 S).bind fun q24 => (some (1, q24.2))) else (some (1, (sI S 9 6 (gI S p1 9))))) else none)
set_option maxRecDepth 20000 in
theorem c_X5_doTimes {l : Launch} {Γ : GG} (hI : Inj Γ) {p1 : Nat} {S : Mem} {q : Int32 × Mem} (hf : f_X5_doTimes p1 S = some q) : MM l Γ yX5_doTimes cX5_doTimes 2 (some .boolean) 2 42 [aR 9, aR p1] S (some (aI q.1)) q.2 := by
  refine met_of hI "TickPools$Runner" rfl (by decide +kernel) (Nat.le_of_ble_eq_true rfl) (fun X hX C hr => ?_)
  unfold f_X5_doTimes at hf
  show ZZ X Γ 2 _ S 0 [(0, aR 9), (1, aR p1)] []
  refine z_aload_n (j := 1) C d_X5_doTimes_0 rfl ?_
  obtain ⟨hg1_0, hf⟩ := gd hf
  refine zg_X8_amount C hg1_0 tw_330 d_X5_doTimes_1 ?_
  refine z_iconst (v := 1) C d_X5_doTimes_4 (by decide) ?_
  refine z_icmp_ge (tgt := 18) C d_X5_doTimes_5 (by decide) hf (fun c5 hf => ?_) (fun c5 hf => ?_)
  · refine z_aload_n (j := 0) C d_X5_doTimes_18 rfl ?_
    refine z_aload_n (j := 1) C d_X5_doTimes_19 rfl ?_
    refine zg_X8_amount C hg1_0 tw_330 d_X5_doTimes_20 ?_
    refine z_iconst (v := 0) C d_X5_doTimes_23 (by decide) ?_
    obtain ⟨q24, hF, hf⟩ := bd hf
    refine z_callV0 (rest := []) C [aI (gI S p1 7), aI 0] rfl (by decide) rfl rfl k_X5_openBracket tw_997 ⟨by decide, by decide⟩ (Nat.le_of_ble_eq_true rfl) d_X5_doTimes_24 (c_X5_openBracket C.inj hF) rfl ?_
    refine z_iconst (v := 1) C d_X5_doTimes_27 (by decide) ?_
    exact r_i C hr (by decide) d_X5_doTimes_28 hf
  · refine z_aload_n (j := 0) C d_X5_doTimes_8 rfl ?_
    refine z_aload_n (j := 1) C d_X5_doTimes_9 rfl ?_
    refine zg_X8_after C hg1_0 tw_334 d_X5_doTimes_10 ?_
    refine zp_X5_at C rfl tw_388 d_X5_doTimes_13 ?_
    refine z_iconst (v := 1) C d_X5_doTimes_16 (by decide) ?_
    exact r_i C hr (by decide) d_X5_doTimes_17 hf
theorem d_X5_turn_0 : decode cX5_turn 0 = .ok (.aload_n 0, 1) := by decide +kernel
theorem d_X5_turn_1 : decode cX5_turn 1 = .ok (.getfield 52, 3) := by decide +kernel
theorem d_X5_turn_4 : decode cX5_turn 4 = .ok (.ifCond .le 36, 3) := by decide +kernel
theorem d_X5_turn_7 : decode cX5_turn 7 = .ok (.aload_n 0, 1) := by decide +kernel
theorem d_X5_turn_8 : decode cX5_turn 8 = .ok (.getfield 52, 3) := by decide +kernel
theorem d_X5_turn_11 : decode cX5_turn 11 = .ok (.aload_n 0, 1) := by decide +kernel
theorem d_X5_turn_12 : decode cX5_turn 12 = .ok (.getfield 25, 3) := by decide +kernel
theorem d_X5_turn_15 : decode cX5_turn 15 = .ok (.arraylength, 1) := by decide +kernel
theorem d_X5_turn_16 : decode cX5_turn 16 = .ok (.if_icmp .gt 24, 3) := by decide +kernel
theorem d_X5_turn_19 : decode cX5_turn 19 = .ok (.aload_n 0, 1) := by decide +kernel
theorem d_X5_turn_20 : decode cX5_turn 20 = .ok (.getfield 15, 3) := by decide +kernel
theorem d_X5_turn_23 : decode cX5_turn 23 = .ok (.aload_n 0, 1) := by decide +kernel
theorem d_X5_turn_24 : decode cX5_turn 24 = .ok (.getfield 25, 3) := by decide +kernel
theorem d_X5_turn_27 : decode cX5_turn 27 = .ok (.aload_n 0, 1) := by decide +kernel
theorem d_X5_turn_28 : decode cX5_turn 28 = .ok (.getfield 52, 3) := by decide +kernel
theorem d_X5_turn_31 : decode cX5_turn 31 = .ok (.iconst 1, 1) := by decide +kernel
theorem d_X5_turn_32 : decode cX5_turn 32 = .ok (.isub, 1) := by decide +kernel
theorem d_X5_turn_33 : decode cX5_turn 33 = .ok (.iaload, 1) := by decide +kernel
theorem d_X5_turn_34 : decode cX5_turn 34 = .ok (.invokevirtual 62, 3) := by decide +kernel
theorem d_X5_turn_37 : decode cX5_turn 37 = .ok (.goto 4, 3) := by decide +kernel
theorem d_X5_turn_40 : decode cX5_turn 40 = .ok (.aconst_null, 1) := by decide +kernel
theorem d_X5_turn_41 : decode cX5_turn 41 = .ok (.astore_n 1, 1) := by decide +kernel
theorem d_X5_turn_42 : decode cX5_turn 42 = .ok (.aload_n 1, 1) := by decide +kernel
theorem d_X5_turn_43 : decode cX5_turn 43 = .ok (.ifnull 20, 3) := by decide +kernel
theorem d_X5_turn_46 : decode cX5_turn 46 = .ok (.aload_n 0, 1) := by decide +kernel
theorem d_X5_turn_47 : decode cX5_turn 47 = .ok (.getfield 49, 3) := by decide +kernel
theorem d_X5_turn_50 : decode cX5_turn 50 = .ok (.aload_n 1, 1) := by decide +kernel
theorem d_X5_turn_51 : decode cX5_turn 51 = .ok (.getfield 66, 3) := by decide +kernel
theorem d_X5_turn_54 : decode cX5_turn 54 = .ok (.if_icmp .lt 9, 3) := by decide +kernel
theorem d_X5_turn_57 : decode cX5_turn 57 = .ok (.aload_n 0, 1) := by decide +kernel
theorem d_X5_turn_58 : decode cX5_turn 58 = .ok (.aload_n 1, 1) := by decide +kernel
theorem d_X5_turn_59 : decode cX5_turn 59 = .ok (.invokevirtual 71, 3) := by decide +kernel
theorem d_X5_turn_62 : decode cX5_turn 62 = .ok (.return_, 1) := by decide +kernel
theorem d_X5_turn_63 : decode cX5_turn 63 = .ok (.aload_n 0, 1) := by decide +kernel
theorem d_X5_turn_64 : decode cX5_turn 64 = .ok (.getfield 15, 3) := by decide +kernel
theorem d_X5_turn_67 : decode cX5_turn 67 = .ok (.aload_n 0, 1) := by decide +kernel
theorem d_X5_turn_68 : decode cX5_turn 68 = .ok (.getfield 49, 3) := by decide +kernel
theorem d_X5_turn_71 : decode cX5_turn 71 = .ok (.invokevirtual 62, 3) := by decide +kernel
theorem d_X5_turn_74 : decode cX5_turn 74 = .ok (.astore_n 2, 1) := by decide +kernel
theorem d_X5_turn_75 : decode cX5_turn 75 = .ok (.aload_n 2, 1) := by decide +kernel
theorem d_X5_turn_76 : decode cX5_turn 76 = .ok (.ifnonnull 4, 3) := by decide +kernel
theorem d_X5_turn_79 : decode cX5_turn 79 = .ok (.return_, 1) := by decide +kernel
theorem d_X5_turn_80 : decode cX5_turn 80 = .ok (.aload_n 0, 1) := by decide +kernel
theorem d_X5_turn_81 : decode cX5_turn 81 = .ok (.getfield 43, 3) := by decide +kernel
theorem d_X5_turn_84 : decode cX5_turn 84 = .ok (.bipush 100, 2) := by decide +kernel
theorem d_X5_turn_86 : decode cX5_turn 86 = .ok (.if_icmp .lt 11, 3) := by decide +kernel
theorem d_X5_turn_89 : decode cX5_turn 89 = .ok (.aload_n 0, 1) := by decide +kernel
theorem d_X5_turn_90 : decode cX5_turn 90 = .ok (.aload_n 2, 1) := by decide +kernel
theorem d_X5_turn_91 : decode cX5_turn 91 = .ok (.bipush 6, 2) := by decide +kernel
theorem d_X5_turn_93 : decode cX5_turn 93 = .ok (.invokevirtual 75, 3) := by decide +kernel
theorem d_X5_turn_96 : decode cX5_turn 96 = .ok (.return_, 1) := by decide +kernel
theorem d_X5_turn_97 : decode cX5_turn 97 = .ok (.aload_n 0, 1) := by decide +kernel
theorem d_X5_turn_98 : decode cX5_turn 98 = .ok (.dup, 1) := by decide +kernel
theorem d_X5_turn_99 : decode cX5_turn 99 = .ok (.getfield 43, 3) := by decide +kernel
theorem d_X5_turn_102 : decode cX5_turn 102 = .ok (.iconst 1, 1) := by decide +kernel
theorem d_X5_turn_103 : decode cX5_turn 103 = .ok (.iadd, 1) := by decide +kernel
theorem d_X5_turn_104 : decode cX5_turn 104 = .ok (.putfield 43, 3) := by decide +kernel
theorem d_X5_turn_107 : decode cX5_turn 107 = .ok (.aload_n 0, 1) := by decide +kernel
theorem d_X5_turn_108 : decode cX5_turn 108 = .ok (.dup, 1) := by decide +kernel
theorem d_X5_turn_109 : decode cX5_turn 109 = .ok (.getfield 49, 3) := by decide +kernel
theorem d_X5_turn_112 : decode cX5_turn 112 = .ok (.iconst 1, 1) := by decide +kernel
theorem d_X5_turn_113 : decode cX5_turn 113 = .ok (.iadd, 1) := by decide +kernel
theorem d_X5_turn_114 : decode cX5_turn 114 = .ok (.putfield 49, 3) := by decide +kernel
theorem d_X5_turn_117 : decode cX5_turn 117 = .ok (.aload_n 2, 1) := by decide +kernel
theorem d_X5_turn_118 : decode cX5_turn 118 = .ok (.getfield 79, 3) := by decide +kernel
theorem d_X5_turn_121 : decode cX5_turn 121 = .ok (.tableswitch 172 0 5 #[39, 48, 57, 109, 118, 163], 39) := by decide +kernel
theorem d_X5_turn_160 : decode cX5_turn 160 = .ok (.aload_n 0, 1) := by decide +kernel
theorem d_X5_turn_161 : decode cX5_turn 161 = .ok (.aload_n 2, 1) := by decide +kernel
theorem d_X5_turn_162 : decode cX5_turn 162 = .ok (.invokevirtual 82, 3) := by decide +kernel
theorem d_X5_turn_165 : decode cX5_turn 165 = .ok (.istore_n 3, 1) := by decide +kernel
theorem d_X5_turn_166 : decode cX5_turn 166 = .ok (.goto 133, 3) := by decide +kernel
theorem d_X5_turn_169 : decode cX5_turn 169 = .ok (.aload_n 0, 1) := by decide +kernel
theorem d_X5_turn_170 : decode cX5_turn 170 = .ok (.aload_n 2, 1) := by decide +kernel
theorem d_X5_turn_171 : decode cX5_turn 171 = .ok (.invokevirtual 86, 3) := by decide +kernel
theorem d_X5_turn_174 : decode cX5_turn 174 = .ok (.istore_n 3, 1) := by decide +kernel
theorem d_X5_turn_175 : decode cX5_turn 175 = .ok (.goto 124, 3) := by decide +kernel
theorem d_X5_turn_178 : decode cX5_turn 178 = .ok (.aload_n 0, 1) := by decide +kernel
theorem d_X5_turn_179 : decode cX5_turn 179 = .ok (.aload_n 2, 1) := by decide +kernel
theorem d_X5_turn_180 : decode cX5_turn 180 = .ok (.getfield 89, 3) := by decide +kernel
theorem d_X5_turn_183 : decode cX5_turn 183 = .ok (.invokevirtual 92, 3) := by decide +kernel
theorem d_X5_turn_186 : decode cX5_turn 186 = .ok (.ifCond .ne 39, 3) := by decide +kernel
theorem d_X5_turn_189 : decode cX5_turn 189 = .ok (.aload_n 0, 1) := by decide +kernel
theorem d_X5_turn_190 : decode cX5_turn 190 = .ok (.getfield 9, 3) := by decide +kernel
theorem d_X5_turn_193 : decode cX5_turn 193 = .ok (.aload_n 0, 1) := by decide +kernel
theorem d_X5_turn_194 : decode cX5_turn 194 = .ok (.getfield 39, 3) := by decide +kernel
theorem d_X5_turn_197 : decode cX5_turn 197 = .ok (.aload_n 2, 1) := by decide +kernel
theorem d_X5_turn_198 : decode cX5_turn 198 = .ok (.getfield 89, 3) := by decide +kernel
theorem d_X5_turn_201 : decode cX5_turn 201 = .ok (.aload_n 2, 1) := by decide +kernel
theorem d_X5_turn_202 : decode cX5_turn 202 = .ok (.getfield 96, 3) := by decide +kernel
theorem d_X5_turn_205 : decode cX5_turn 205 = .ok (.aload_n 2, 1) := by decide +kernel
theorem d_X5_turn_206 : decode cX5_turn 206 = .ok (.getfield 99, 3) := by decide +kernel
theorem d_X5_turn_209 : decode cX5_turn 209 = .ok (.iconst 0, 1) := by decide +kernel
theorem d_X5_turn_210 : decode cX5_turn 210 = .ok (.aload_n 2, 1) := by decide +kernel
theorem d_X5_turn_211 : decode cX5_turn 211 = .ok (.getfield 102, 3) := by decide +kernel
theorem d_X5_turn_214 : decode cX5_turn 214 = .ok (.invokevirtual 105, 3) := by decide +kernel
theorem d_X5_turn_217 : decode cX5_turn 217 = .ok (.iconst (-1), 1) := by decide +kernel
theorem d_X5_turn_218 : decode cX5_turn 218 = .ok (.if_icmp .eq 7, 3) := by decide +kernel
theorem d_X5_turn_221 : decode cX5_turn 221 = .ok (.iconst 1, 1) := by decide +kernel
theorem d_X5_turn_222 : decode cX5_turn 222 = .ok (.goto 4, 3) := by decide +kernel
theorem d_X5_turn_225 : decode cX5_turn 225 = .ok (.iconst 0, 1) := by decide +kernel
theorem d_X5_turn_226 : decode cX5_turn 226 = .ok (.istore_n 3, 1) := by decide +kernel
theorem d_X5_turn_227 : decode cX5_turn 227 = .ok (.goto 72, 3) := by decide +kernel
theorem d_X5_turn_230 : decode cX5_turn 230 = .ok (.aload_n 0, 1) := by decide +kernel
theorem d_X5_turn_231 : decode cX5_turn 231 = .ok (.aload_n 2, 1) := by decide +kernel
theorem d_X5_turn_232 : decode cX5_turn 232 = .ok (.invokevirtual 111, 3) := by decide +kernel
theorem d_X5_turn_235 : decode cX5_turn 235 = .ok (.istore_n 3, 1) := by decide +kernel
theorem d_X5_turn_236 : decode cX5_turn 236 = .ok (.goto 63, 3) := by decide +kernel
theorem d_X5_turn_239 : decode cX5_turn 239 = .ok (.aload_n 0, 1) := by decide +kernel
theorem d_X5_turn_240 : decode cX5_turn 240 = .ok (.getfield 9, 3) := by decide +kernel
theorem d_X5_turn_243 : decode cX5_turn 243 = .ok (.aload_n 2, 1) := by decide +kernel
theorem d_X5_turn_244 : decode cX5_turn 244 = .ok (.getfield 114, 3) := by decide +kernel
theorem d_X5_turn_247 : decode cX5_turn 247 = .ok (.invokevirtual 117, 3) := by decide +kernel
theorem d_X5_turn_250 : decode cX5_turn 250 = .ok (.ifCond .eq 29, 3) := by decide +kernel
theorem d_X5_turn_253 : decode cX5_turn 253 = .ok (.aload_n 0, 1) := by decide +kernel
theorem d_X5_turn_254 : decode cX5_turn 254 = .ok (.getfield 9, 3) := by decide +kernel
theorem d_X5_turn_257 : decode cX5_turn 257 = .ok (.aload_n 0, 1) := by decide +kernel
theorem d_X5_turn_258 : decode cX5_turn 258 = .ok (.getfield 39, 3) := by decide +kernel
theorem d_X5_turn_261 : decode cX5_turn 261 = .ok (.aload_n 2, 1) := by decide +kernel
theorem d_X5_turn_262 : decode cX5_turn 262 = .ok (.getfield 114, 3) := by decide +kernel
theorem d_X5_turn_265 : decode cX5_turn 265 = .ok (.invokevirtual 120, 3) := by decide +kernel
theorem d_X5_turn_268 : decode cX5_turn 268 = .ok (.aload_n 2, 1) := by decide +kernel
theorem d_X5_turn_269 : decode cX5_turn 269 = .ok (.getfield 102, 3) := by decide +kernel
theorem d_X5_turn_272 : decode cX5_turn 272 = .ok (.if_icmp .lt 7, 3) := by decide +kernel
theorem d_X5_turn_275 : decode cX5_turn 275 = .ok (.iconst 1, 1) := by decide +kernel
theorem d_X5_turn_276 : decode cX5_turn 276 = .ok (.goto 4, 3) := by decide +kernel
theorem d_X5_turn_279 : decode cX5_turn 279 = .ok (.iconst 0, 1) := by decide +kernel
theorem d_X5_turn_280 : decode cX5_turn 280 = .ok (.istore_n 3, 1) := by decide +kernel
theorem d_X5_turn_281 : decode cX5_turn 281 = .ok (.goto 18, 3) := by decide +kernel
theorem d_X5_turn_284 : decode cX5_turn 284 = .ok (.aload_n 0, 1) := by decide +kernel
theorem d_X5_turn_285 : decode cX5_turn 285 = .ok (.aload_n 2, 1) := by decide +kernel
theorem d_X5_turn_286 : decode cX5_turn 286 = .ok (.invokevirtual 124, 3) := by decide +kernel
theorem d_X5_turn_289 : decode cX5_turn 289 = .ok (.istore_n 3, 1) := by decide +kernel
theorem d_X5_turn_290 : decode cX5_turn 290 = .ok (.goto 9, 3) := by decide +kernel
theorem d_X5_turn_293 : decode cX5_turn 293 = .ok (.aload_n 0, 1) := by decide +kernel
theorem d_X5_turn_294 : decode cX5_turn 294 = .ok (.aload_n 2, 1) := by decide +kernel
theorem d_X5_turn_295 : decode cX5_turn 295 = .ok (.invokevirtual 127, 3) := by decide +kernel
theorem d_X5_turn_298 : decode cX5_turn 298 = .ok (.istore_n 3, 1) := by decide +kernel
theorem d_X5_turn_299 : decode cX5_turn 299 = .ok (.iload_n 3, 1) := by decide +kernel
theorem d_X5_turn_300 : decode cX5_turn 300 = .ok (.ifCond .ne 9, 3) := by decide +kernel
theorem d_X5_turn_303 : decode cX5_turn 303 = .ok (.aload_n 0, 1) := by decide +kernel
theorem d_X5_turn_304 : decode cX5_turn 304 = .ok (.aload_n 2, 1) := by decide +kernel
theorem d_X5_turn_305 : decode cX5_turn 305 = .ok (.iconst 5, 1) := by decide +kernel
theorem d_X5_turn_306 : decode cX5_turn 306 = .ok (.invokevirtual 75, 3) := by decide +kernel
theorem d_X5_turn_309 : decode cX5_turn 309 = .ok (.return_, 1) := by decide +kernel
def f_X5_turn_309 (S : Mem) : Option (Unit × Mem) := (some ((), S))
set_option maxRecDepth 20000 in
theorem t_X5_turn_309 {X : MC} {Γ : GG} (C : CX X Γ cX5_turn 4 "TickPools$Runner" 6 173) (hr : X.2.2.2.2.2.2.2.2.1.sig.returnType = none) {q : Unit × Mem} (S : Mem) (hf : f_X5_turn_309 S = some q) : ZZ X Γ 4 (QQ X Γ none q.2) S 309 [] [] := by
  unfold f_X5_turn_309 at hf
  exact r_v C hr d_X5_turn_309 hf
def f_X5_turn_299 (v2 : Nat) (v3 : Int32) (S : Mem) : Option (Unit × Mem) := (if v3 = 0 then ((f_X5_fail v2 5 S).bind fun q306 => (f_X5_turn_309  q306.2)) else (f_X5_turn_309  S))
set_option maxRecDepth 20000 in
theorem t_X5_turn_299 {X : MC} {Γ : GG} (C : CX X Γ cX5_turn 4 "TickPools$Runner" 6 173) (hr : X.2.2.2.2.2.2.2.2.1.sig.returnType = none) {q : Unit × Mem} (v2 : Nat) (v3 : Int32) (S : Mem) (hf : f_X5_turn_299 v2 v3 S = some q) : ZZ X Γ 4 (QQ X Γ none q.2) S 299 [(0, aR 9), (2, aR v2), (3, aI v3)] [] := by
  unfold f_X5_turn_299 at hf
  refine z_iload_n (j := 2) C d_X5_turn_299 rfl ?_
  refine z_if_ne (tgt := 309) C d_X5_turn_300 (by decide) hf (fun c300 hf => ?_) (fun c300 hf => ?_)
  · exact z_sub [] rfl (t_X5_turn_309 C hr  _ hf)
  · refine z_aload_n (j := 0) C d_X5_turn_303 rfl ?_
    refine z_aload_n (j := 1) C d_X5_turn_304 rfl ?_
    refine z_iconst (v := 5) C d_X5_turn_305 (by decide) ?_
    obtain ⟨q306, hF, hf⟩ := bd hf
    refine z_callV0 (rest := []) C [aR v2, aI 5] rfl (by decide) rfl rfl k_X5_fail tw_793 ⟨by decide, by decide⟩ (Nat.le_of_ble_eq_true rfl) d_X5_turn_306 (c_X5_fail C.inj hF) rfl ?_
    exact z_sub [] rfl (t_X5_turn_309 C hr  _ hf)
def f_X5_turn_226 (v2 : Nat) (s0 : Int32) (S : Mem) : Option (Unit × Mem) := (f_X5_turn_299  v2 s0 S)
set_option maxRecDepth 20000 in
theorem t_X5_turn_226 {X : MC} {Γ : GG} (C : CX X Γ cX5_turn 4 "TickPools$Runner" 6 173) (hr : X.2.2.2.2.2.2.2.2.1.sig.returnType = none) {q : Unit × Mem} (v2 : Nat) (s0 : Int32) (S : Mem) (hf : f_X5_turn_226 v2 s0 S = some q) : ZZ X Γ 4 (QQ X Γ none q.2) S 226 [(0, aR 9), (2, aR v2)] [aI s0] := by
  unfold f_X5_turn_226 at hf
  refine z_istore_n (lv' := [(3, aI s0), (0, aR 9), (2, aR v2)]) C d_X5_turn_226 (by decide) rfl ?_
  refine z_goto (tgt := 299) C d_X5_turn_227 (by decide) ?_
  exact z_sub [1, 2, 0] rfl (t_X5_turn_299 C hr  _ _ _ hf)
def f_X5_turn_225 (v2 : Nat) (S : Mem) : Option (Unit × Mem) := (f_X5_turn_226  v2 0 S)
set_option maxRecDepth 20000 in
theorem t_X5_turn_225 {X : MC} {Γ : GG} (C : CX X Γ cX5_turn 4 "TickPools$Runner" 6 173) (hr : X.2.2.2.2.2.2.2.2.1.sig.returnType = none) {q : Unit × Mem} (v2 : Nat) (S : Mem) (hf : f_X5_turn_225 v2 S = some q) : ZZ X Γ 4 (QQ X Γ none q.2) S 225 [(0, aR 9), (2, aR v2)] [] := by
  unfold f_X5_turn_225 at hf
  refine z_iconst (v := 0) C d_X5_turn_225 (by decide) ?_
  exact z_sub [0, 1] rfl (t_X5_turn_226 C hr  _ _ _ hf)
def f_X5_turn_280 (v2 : Nat) (s0 : Int32) (S : Mem) : Option (Unit × Mem) := (f_X5_turn_299  v2 s0 S)
set_option maxRecDepth 20000 in
theorem t_X5_turn_280 {X : MC} {Γ : GG} (C : CX X Γ cX5_turn 4 "TickPools$Runner" 6 173) (hr : X.2.2.2.2.2.2.2.2.1.sig.returnType = none) {q : Unit × Mem} (v2 : Nat) (s0 : Int32) (S : Mem) (hf : f_X5_turn_280 v2 s0 S = some q) : ZZ X Γ 4 (QQ X Γ none q.2) S 280 [(0, aR 9), (2, aR v2)] [aI s0] := by
  unfold f_X5_turn_280 at hf
  refine z_istore_n (lv' := [(3, aI s0), (0, aR 9), (2, aR v2)]) C d_X5_turn_280 (by decide) rfl ?_
  refine z_goto (tgt := 299) C d_X5_turn_281 (by decide) ?_
  exact z_sub [1, 2, 0] rfl (t_X5_turn_299 C hr  _ _ _ hf)
def f_X5_turn_279 (v2 : Nat) (S : Mem) : Option (Unit × Mem) := (f_X5_turn_280  v2 0 S)
set_option maxRecDepth 20000 in
theorem t_X5_turn_279 {X : MC} {Γ : GG} (C : CX X Γ cX5_turn 4 "TickPools$Runner" 6 173) (hr : X.2.2.2.2.2.2.2.2.1.sig.returnType = none) {q : Unit × Mem} (v2 : Nat) (S : Mem) (hf : f_X5_turn_279 v2 S = some q) : ZZ X Γ 4 (QQ X Γ none q.2) S 279 [(0, aR 9), (2, aR v2)] [] := by
  unfold f_X5_turn_279 at hf
  refine z_iconst (v := 0) C d_X5_turn_279 (by decide) ?_
  exact z_sub [0, 1] rfl (t_X5_turn_280 C hr  _ _ _ hf)
def f_X5_turn_63 (S : Mem) : Option (Unit × Mem) := ((f_X6_stepAt (gI S 9 6) S).bind fun q71 => (if q71.1 = 0 then (some ((), q71.2)) else (if (gI q71.2 9 0) < 100 then (if kd q71.1 = (7, 10) then (if (gI (sI (sI q71.2 9 0 ((gI q71.2 9 0) + 1)) 9 6 ((gI (sI q71.2 9 0 ((gI q71.2 9 0) + 1)) 9 6) + 1)) q71.1 0) = 0 then ((f_X5_doIn q71.1 (sI (sI q71.2 9 0 ((gI q71.2 9 0) + 1)) 9 6 ((gI (sI q71.2 9 0 ((gI q71.2 9 0) + 1)) 9 6) + 1))).bind fun q162 => (f_X5_turn_299  q71.1 q162.1 q162.2)) else (if (gI (sI (sI q71.2 9 0 ((gI q71.2 9 0) + 1)) 9 6 ((gI (sI q71.2 9 0 ((gI q71.2 9 0) + 1)) 9 6) + 1)) q71.1 0) = 1 then ((f_X5_doOut q71.1 (sI (sI q71.2 9 0 ((gI q71.2 9 0) + 1)) 9 6 ((gI (sI q71.2 9 0 ((gI q71.2 9 0) + 1)) 9 6) + 1))).bind fun q171 => (f_X5_turn_299  q71.1 q171.1 q171.2)) else (if (gI (sI (sI q71.2 9 0 ((gI q71.2 9 0) + 1)) 9 6 ((gI (sI q71.2 9 0 ((gI q71.2 9 0) + 1)) 9 6) + 1)) q71.1 0) = 2 then ((f_X5_isLocked (gI (sI (sI q71.2 9 0 ((gI q71.2 9 0) + 1)) 9 6 ((gI (sI q71.2 9 0 ((gI q71.2 9 0) + 1)) 9 6) + 1)) q71.1 2) (sI (sI q71.2 9 0 ((gI q71.2 9 0) + 1)) 9 6 ((gI (sI q71.2 9 0 ((gI q71.2 9 0) + 1)) 9 6) + 1))).bind fun q183 => (if q183.1 = 0 then ((f_X2_addStake 78 (gI q183.2 9 5) (gI q183.2 q71.1 2) (gI q183.2 q71.1 4) (gI q183.2 q71.1 5) 0 (gI q183.2 q71.1 7) q183.2).bind fun q214 => (if q214.1 = (-1) then (f_X5_turn_225  q71.1 q214.2) else (f_X5_turn_226  q71.1 1 q214.2))) else (f_X5_turn_225  q71.1 q183.2))) else (if (gI (sI (sI q71.2 9 0 ((gI q71.2 9 0) + 1)) 9 6 ((gI (sI q71.2 9 0 ((gI q71.2 9 0) + 1)) 9 6) + 1)) q71.1 0) = 3 then ((f_X5_doDrop q71.1 (sI (sI q71.2 9 0 ((gI q71.2 9 0) + 1)) 9 6 ((gI (sI q71.2 9 0 ((gI q71.2 9 0) + 1)) 9 6) + 1))).bind fun q232 => (f_X5_turn_299  q71.1 q232.1 q232.2)) else (if (gI (sI (sI q71.2 9 0 ((gI q71.2 9 0) + 1)) 9 6 ((gI (sI q71.2 9 0 ((gI q71.2 9 0) + 1)) 9 6) + 1)) q71.1 0) = 4 then ((f_X2_hasThing 78 (gI (sI (sI q71.2 9 0 ((gI q71.2 9 0) + 1)) 9 6 ((gI (sI q71.2 9 0 ((gI q71.2 9 0) + 1)) 9 6) + 1)) q71.1 6) (sI (sI q71.2 9 0 ((gI q71.2 9 0) + 1)) 9 6 ((gI (sI q71.2 9 0 ((gI q71.2 9 0) + 1)) 9 6) + 1))).bind fun q247 => (if q247.1 = 0 then (f_X5_turn_279  q71.1 q247.2) else ((f_X2_purseOf 78 (gI q247.2 9 5) (gI q247.2 q71.1 6) q247.2).bind fun q265 => (if q265.1 < (gI q265.2 q71.1 7) then (f_X5_turn_279  q71.1 q265.2) else (f_X5_turn_280  q71.1 1 q265.2))))) else (if (gI (sI (sI q71.2 9 0 ((gI q71.2 9 0) + 1)) 9 6 ((gI (sI q71.2 9 0 ((gI q71.2 9 0) + 1)) 9 6) + 1)) q71.1 0) = 5 then ((f_X5_doLend q71.1 (sI (sI q71.2 9 0 ((gI q71.2 9 0) + 1)) 9 6 ((gI (sI q71.2 9 0 ((gI q71.2 9 0) + 1)) 9 6) + 1))).bind fun q286 => (f_X5_turn_299  q71.1 q286.1 q286.2)) else ((f_X5_doTimes q71.1 (sI (sI q71.2 9 0 ((gI q71.2 9 0) + 1)) 9 6 ((gI (sI q71.2 9 0 ((gI q71.2 9 0) + 1)) 9 6) + 1))).bind fun q295 => (f_X5_turn_299  q71.1 q295.1 q295.2)))))))) else none) else ((f_X5_fail q71.1 6 q71.2).bind fun q93 => (some ((), q93.2))))))
set_option maxRecDepth 20000 in
theorem t_X5_turn_63 {X : MC} {Γ : GG} (C : CX X Γ cX5_turn 4 "TickPools$Runner" 6 173) (hr : X.2.2.2.2.2.2.2.2.1.sig.returnType = none) {q : Unit × Mem} (S : Mem) (hf : f_X5_turn_63 S = some q) : ZZ X Γ 4 (QQ X Γ none q.2) S 63 [(0, aR 9)] [] := by
  unfold f_X5_turn_63 at hf
  refine z_aload_n (j := 0) C d_X5_turn_63 rfl ?_
  refine zg_X5_script C rfl tw_385 d_X5_turn_64 ?_
  refine z_aload_n (j := 0) C d_X5_turn_67 rfl ?_
  refine zg_X5_at C rfl tw_388 d_X5_turn_68 ?_
  obtain ⟨q71, hF, hf⟩ := bd hf
  refine z_callV1 (rest := []) C [aI (gI S 9 6)] rfl (by decide) rfl rfl k_X6_stepAt tw_767 ⟨by decide, by decide⟩ (Nat.le_of_ble_eq_true rfl) d_X5_turn_71 (c_X6_stepAt C.inj hF) rfl ?_
  refine z_astore_n (lv' := [(2, aR q71.1), (0, aR 9)]) C d_X5_turn_74 (by decide) rfl ?_
  refine z_aload_n (j := 0) C d_X5_turn_75 rfl ?_
  refine z_ifnonnull (tgt := 80) C d_X5_turn_76 (by decide) hf (fun c76 hf => ?_) (fun c76 hf => ?_)
  · refine z_aload_n (j := 1) C d_X5_turn_80 rfl ?_
    refine zg_X5_done C rfl tw_380 d_X5_turn_81 ?_
    refine z_bipush (v := 100) C d_X5_turn_84 (by decide) ?_
    refine z_icmp_lt (tgt := 97) C d_X5_turn_86 (by decide) hf (fun c86 hf => ?_) (fun c86 hf => ?_)
    · refine z_aload_n (j := 1) C d_X5_turn_97 rfl ?_
      refine z_dup C d_X5_turn_98 rfl ?_
      refine zg_X5_done C rfl tw_380 d_X5_turn_99 ?_
      refine z_iconst (v := 1) C d_X5_turn_102 (by decide) ?_
      refine z_iadd C d_X5_turn_103 ?_
      refine zp_X5_done C rfl tw_380 d_X5_turn_104 ?_
      refine z_aload_n (j := 1) C d_X5_turn_107 rfl ?_
      refine z_dup C d_X5_turn_108 rfl ?_
      refine zg_X5_at C rfl tw_388 d_X5_turn_109 ?_
      refine z_iconst (v := 1) C d_X5_turn_112 (by decide) ?_
      refine z_iadd C d_X5_turn_113 ?_
      refine zp_X5_at C rfl tw_388 d_X5_turn_114 ?_
      refine z_aload_n (j := 0) C d_X5_turn_117 rfl ?_
      obtain ⟨hg118_0, hf⟩ := gd hf
      refine zg_X8_kind C hg118_0 tw_316 d_X5_turn_118 ?_
      by_cases c121_0 : (gI (sI (sI q71.2 9 0 ((gI q71.2 9 0) + 1)) 9 6 ((gI (sI q71.2 9 0 ((gI q71.2 9 0) + 1)) 9 6) + 1)) q71.1 0) = 0
      · rw [if_pos c121_0] at hf
        refine z_tin (tgt := 160) C d_X5_turn_121 (by rw [c121_0]; decide) (by rw [c121_0]; decide) (by rw [c121_0]; rfl) (by decide) ?_
        refine z_aload_n (j := 1) C d_X5_turn_160 rfl ?_
        refine z_aload_n (j := 0) C d_X5_turn_161 rfl ?_
        obtain ⟨q162, hF, hf⟩ := bd hf
        refine z_callV1 (rest := []) C [aR q71.1] rfl (by decide) rfl rfl k_X5_doIn tw_821 ⟨by decide, by decide⟩ (Nat.le_of_ble_eq_true rfl) d_X5_turn_162 (c_X5_doIn C.inj hF) rfl ?_
        refine z_istore_n (lv' := [(3, aI q162.1), (2, aR q71.1), (0, aR 9)]) C d_X5_turn_165 (by decide) rfl ?_
        refine z_goto (tgt := 299) C d_X5_turn_166 (by decide) ?_
        exact z_sub [2, 1, 0] rfl (t_X5_turn_299 C hr  _ _ _ hf)
      rw [if_neg c121_0] at hf
      have d121_0 := tn (n := 0) c121_0 (by decide)
      by_cases c121_1 : (gI (sI (sI q71.2 9 0 ((gI q71.2 9 0) + 1)) 9 6 ((gI (sI q71.2 9 0 ((gI q71.2 9 0) + 1)) 9 6) + 1)) q71.1 0) = 1
      · rw [if_pos c121_1] at hf
        refine z_tin (tgt := 169) C d_X5_turn_121 (by rw [c121_1]; decide) (by rw [c121_1]; decide) (by rw [c121_1]; rfl) (by decide) ?_
        refine z_aload_n (j := 1) C d_X5_turn_169 rfl ?_
        refine z_aload_n (j := 0) C d_X5_turn_170 rfl ?_
        obtain ⟨q171, hF, hf⟩ := bd hf
        refine z_callV1 (rest := []) C [aR q71.1] rfl (by decide) rfl rfl k_X5_doOut tw_932 ⟨by decide, by decide⟩ (Nat.le_of_ble_eq_true rfl) d_X5_turn_171 (c_X5_doOut C.inj hF) rfl ?_
        refine z_istore_n (lv' := [(3, aI q171.1), (2, aR q71.1), (0, aR 9)]) C d_X5_turn_174 (by decide) rfl ?_
        refine z_goto (tgt := 299) C d_X5_turn_175 (by decide) ?_
        exact z_sub [2, 1, 0] rfl (t_X5_turn_299 C hr  _ _ _ hf)
      rw [if_neg c121_1] at hf
      have d121_1 := tn (n := 1) c121_1 (by decide)
      by_cases c121_2 : (gI (sI (sI q71.2 9 0 ((gI q71.2 9 0) + 1)) 9 6 ((gI (sI q71.2 9 0 ((gI q71.2 9 0) + 1)) 9 6) + 1)) q71.1 0) = 2
      · rw [if_pos c121_2] at hf
        refine z_tin (tgt := 178) C d_X5_turn_121 (by rw [c121_2]; decide) (by rw [c121_2]; decide) (by rw [c121_2]; rfl) (by decide) ?_
        refine z_aload_n (j := 1) C d_X5_turn_178 rfl ?_
        refine z_aload_n (j := 0) C d_X5_turn_179 rfl ?_
        refine zg_X8_pool C hg118_0 tw_320 d_X5_turn_180 ?_
        obtain ⟨q183, hF, hf⟩ := bd hf
        refine z_callV1 (rest := []) C [aI (gI (sI (sI q71.2 9 0 ((gI q71.2 9 0) + 1)) 9 6 ((gI (sI q71.2 9 0 ((gI q71.2 9 0) + 1)) 9 6) + 1)) q71.1 2)] rfl (by decide) rfl rfl k_X5_isLocked tw_825 ⟨by decide, by decide⟩ (Nat.le_of_ble_eq_true rfl) d_X5_turn_183 (c_X5_isLocked C.inj hF) rfl ?_
        refine z_if_ne (tgt := 225) C d_X5_turn_186 (by decide) hf (fun c186 hf => ?_) (fun c186 hf => ?_)
        · exact z_sub [1, 0] rfl (t_X5_turn_225 C hr  _ _ hf)
        · refine z_aload_n (j := 1) C d_X5_turn_189 rfl ?_
          refine zg_X5_market C rfl tw_384 d_X5_turn_190 ?_
          refine z_aload_n (j := 1) C d_X5_turn_193 rfl ?_
          refine zg_X5_person C rfl tw_387 d_X5_turn_194 ?_
          refine z_aload_n (j := 0) C d_X5_turn_197 rfl ?_
          refine zg_X8_pool C hg118_0 tw_320 d_X5_turn_198 ?_
          refine z_aload_n (j := 0) C d_X5_turn_201 rfl ?_
          refine zg_X8_low C hg118_0 tw_324 d_X5_turn_202 ?_
          refine z_aload_n (j := 0) C d_X5_turn_205 rfl ?_
          refine zg_X8_high C hg118_0 tw_326 d_X5_turn_206 ?_
          refine z_iconst (v := 0) C d_X5_turn_209 (by decide) ?_
          refine z_aload_n (j := 0) C d_X5_turn_210 rfl ?_
          refine zg_X8_amount C hg118_0 tw_330 d_X5_turn_211 ?_
          obtain ⟨q214, hF, hf⟩ := bd hf
          refine z_callV1 (rest := []) C [aI (gI q183.2 9 5), aI (gI q183.2 q71.1 2), aI (gI q183.2 q71.1 4), aI (gI q183.2 q71.1 5), aI 0, aI (gI q183.2 q71.1 7)] rfl (by decide) rfl rfl k_X2_addStake tw_954 ⟨by decide, by decide⟩ (Nat.le_of_ble_eq_true rfl) d_X5_turn_214 (c_X2_addStake C.inj hF) rfl ?_
          refine z_iconst (v := (-1)) C d_X5_turn_217 (by decide) ?_
          refine z_icmp_eq (tgt := 225) C d_X5_turn_218 (by decide) hf (fun c218 hf => ?_) (fun c218 hf => ?_)
          · exact z_sub [1, 0] rfl (t_X5_turn_225 C hr  _ _ hf)
          · refine z_iconst (v := 1) C d_X5_turn_221 (by decide) ?_
            refine z_goto (tgt := 226) C d_X5_turn_222 (by decide) ?_
            exact z_sub [1, 0] rfl (t_X5_turn_226 C hr  _ _ _ hf)
      rw [if_neg c121_2] at hf
      have d121_2 := tn (n := 2) c121_2 (by decide)
      by_cases c121_3 : (gI (sI (sI q71.2 9 0 ((gI q71.2 9 0) + 1)) 9 6 ((gI (sI q71.2 9 0 ((gI q71.2 9 0) + 1)) 9 6) + 1)) q71.1 0) = 3
      · rw [if_pos c121_3] at hf
        refine z_tin (tgt := 230) C d_X5_turn_121 (by rw [c121_3]; decide) (by rw [c121_3]; decide) (by rw [c121_3]; rfl) (by decide) ?_
        refine z_aload_n (j := 1) C d_X5_turn_230 rfl ?_
        refine z_aload_n (j := 0) C d_X5_turn_231 rfl ?_
        obtain ⟨q232, hF, hf⟩ := bd hf
        refine z_callV1 (rest := []) C [aR q71.1] rfl (by decide) rfl rfl k_X5_doDrop tw_977 ⟨by decide, by decide⟩ (Nat.le_of_ble_eq_true rfl) d_X5_turn_232 (c_X5_doDrop C.inj hF) rfl ?_
        refine z_istore_n (lv' := [(3, aI q232.1), (2, aR q71.1), (0, aR 9)]) C d_X5_turn_235 (by decide) rfl ?_
        refine z_goto (tgt := 299) C d_X5_turn_236 (by decide) ?_
        exact z_sub [2, 1, 0] rfl (t_X5_turn_299 C hr  _ _ _ hf)
      rw [if_neg c121_3] at hf
      have d121_3 := tn (n := 3) c121_3 (by decide)
      by_cases c121_4 : (gI (sI (sI q71.2 9 0 ((gI q71.2 9 0) + 1)) 9 6 ((gI (sI q71.2 9 0 ((gI q71.2 9 0) + 1)) 9 6) + 1)) q71.1 0) = 4
      · rw [if_pos c121_4] at hf
        refine z_tin (tgt := 239) C d_X5_turn_121 (by rw [c121_4]; decide) (by rw [c121_4]; decide) (by rw [c121_4]; rfl) (by decide) ?_
        refine z_aload_n (j := 1) C d_X5_turn_239 rfl ?_
        refine zg_X5_market C rfl tw_384 d_X5_turn_240 ?_
        refine z_aload_n (j := 0) C d_X5_turn_243 rfl ?_
        refine zg_X8_thing C hg118_0 tw_328 d_X5_turn_244 ?_
        obtain ⟨q247, hF, hf⟩ := bd hf
        refine z_callV1 (rest := []) C [aI (gI (sI (sI q71.2 9 0 ((gI q71.2 9 0) + 1)) 9 6 ((gI (sI q71.2 9 0 ((gI q71.2 9 0) + 1)) 9 6) + 1)) q71.1 6)] rfl (by decide) rfl rfl k_X2_hasThing tw_984 ⟨by decide, by decide⟩ (Nat.le_of_ble_eq_true rfl) d_X5_turn_247 (c_X2_hasThing C.inj hF) rfl ?_
        refine z_if_eq (tgt := 279) C d_X5_turn_250 (by decide) hf (fun c250 hf => ?_) (fun c250 hf => ?_)
        · exact z_sub [1, 0] rfl (t_X5_turn_279 C hr  _ _ hf)
        · refine z_aload_n (j := 1) C d_X5_turn_253 rfl ?_
          refine zg_X5_market C rfl tw_384 d_X5_turn_254 ?_
          refine z_aload_n (j := 1) C d_X5_turn_257 rfl ?_
          refine zg_X5_person C rfl tw_387 d_X5_turn_258 ?_
          refine z_aload_n (j := 0) C d_X5_turn_261 rfl ?_
          refine zg_X8_thing C hg118_0 tw_328 d_X5_turn_262 ?_
          obtain ⟨q265, hF, hf⟩ := bd hf
          refine z_callV1 (rest := []) C [aI (gI q247.2 9 5), aI (gI q247.2 q71.1 6)] rfl (by decide) rfl rfl k_X2_purseOf tw_792 ⟨by decide, by decide⟩ (Nat.le_of_ble_eq_true rfl) d_X5_turn_265 (c_X2_purseOf C.inj hF) rfl ?_
          refine z_aload_n (j := 0) C d_X5_turn_268 rfl ?_
          refine zg_X8_amount C hg118_0 tw_330 d_X5_turn_269 ?_
          refine z_icmp_lt (tgt := 279) C d_X5_turn_272 (by decide) hf (fun c272 hf => ?_) (fun c272 hf => ?_)
          · exact z_sub [1, 0] rfl (t_X5_turn_279 C hr  _ _ hf)
          · refine z_iconst (v := 1) C d_X5_turn_275 (by decide) ?_
            refine z_goto (tgt := 280) C d_X5_turn_276 (by decide) ?_
            exact z_sub [1, 0] rfl (t_X5_turn_280 C hr  _ _ _ hf)
      rw [if_neg c121_4] at hf
      have d121_4 := tn (n := 4) c121_4 (by decide)
      by_cases c121_5 : (gI (sI (sI q71.2 9 0 ((gI q71.2 9 0) + 1)) 9 6 ((gI (sI q71.2 9 0 ((gI q71.2 9 0) + 1)) 9 6) + 1)) q71.1 0) = 5
      · rw [if_pos c121_5] at hf
        refine z_tin (tgt := 284) C d_X5_turn_121 (by rw [c121_5]; decide) (by rw [c121_5]; decide) (by rw [c121_5]; rfl) (by decide) ?_
        refine z_aload_n (j := 1) C d_X5_turn_284 rfl ?_
        refine z_aload_n (j := 0) C d_X5_turn_285 rfl ?_
        obtain ⟨q286, hF, hf⟩ := bd hf
        refine z_callV1 (rest := []) C [aR q71.1] rfl (by decide) rfl rfl k_X5_doLend tw_988 ⟨by decide, by decide⟩ (Nat.le_of_ble_eq_true rfl) d_X5_turn_286 (c_X5_doLend C.inj hF) rfl ?_
        refine z_istore_n (lv' := [(3, aI q286.1), (2, aR q71.1), (0, aR 9)]) C d_X5_turn_289 (by decide) rfl ?_
        refine z_goto (tgt := 299) C d_X5_turn_290 (by decide) ?_
        exact z_sub [2, 1, 0] rfl (t_X5_turn_299 C hr  _ _ _ hf)
      rw [if_neg c121_5] at hf
      have d121_5 := tn (n := 5) c121_5 (by decide)
      refine z_tout (tgt := 293) C d_X5_turn_121 (by omega) (by decide) ?_
      refine z_aload_n (j := 1) C d_X5_turn_293 rfl ?_
      refine z_aload_n (j := 0) C d_X5_turn_294 rfl ?_
      obtain ⟨q295, hF, hf⟩ := bd hf
      refine z_callV1 (rest := []) C [aR q71.1] rfl (by decide) rfl rfl k_X5_doTimes tw_1001 ⟨by decide, by decide⟩ (Nat.le_of_ble_eq_true rfl) d_X5_turn_295 (c_X5_doTimes C.inj hF) rfl ?_
      refine z_istore_n (lv' := [(3, aI q295.1), (2, aR q71.1), (0, aR 9)]) C d_X5_turn_298 (by decide) rfl ?_
      exact z_sub [2, 1, 0] rfl (t_X5_turn_299 C hr  _ _ _ hf)
    · refine z_aload_n (j := 1) C d_X5_turn_89 rfl ?_
      refine z_aload_n (j := 0) C d_X5_turn_90 rfl ?_
      refine z_bipush (v := 6) C d_X5_turn_91 (by decide) ?_
      obtain ⟨q93, hF, hf⟩ := bd hf
      refine z_callV0 (rest := []) C [aR q71.1, aI 6] rfl (by decide) rfl rfl k_X5_fail tw_793 ⟨by decide, by decide⟩ (Nat.le_of_ble_eq_true rfl) d_X5_turn_93 (c_X5_fail C.inj hF) rfl ?_
      exact r_v C hr d_X5_turn_96 hf
  · exact r_v C hr d_X5_turn_79 hf
def f_X5_turn_41 (s0 : Nat) (S : Mem) : Option (Unit × Mem) := (if s0 = 0 then (f_X5_turn_63  S) else (if kd s0 = (7, 10) then (if (gI S 9 6) < (gI S s0 9) then (f_X5_turn_63  S) else ((f_X5_closeBracket s0 S).bind fun q59 => (some ((), q59.2)))) else none))
set_option maxRecDepth 20000 in
theorem t_X5_turn_41 {X : MC} {Γ : GG} (C : CX X Γ cX5_turn 4 "TickPools$Runner" 6 173) (hr : X.2.2.2.2.2.2.2.2.1.sig.returnType = none) {q : Unit × Mem} (s0 : Nat) (S : Mem) (hf : f_X5_turn_41 s0 S = some q) : ZZ X Γ 4 (QQ X Γ none q.2) S 41 [(0, aR 9)] [aR s0] := by
  unfold f_X5_turn_41 at hf
  refine z_astore_n (lv' := [(1, aR s0), (0, aR 9)]) C d_X5_turn_41 (by decide) rfl ?_
  refine z_aload_n (j := 0) C d_X5_turn_42 rfl ?_
  refine z_ifnull (tgt := 63) C d_X5_turn_43 (by decide) hf (fun c43 hf => ?_) (fun c43 hf => ?_)
  · exact z_sub [1] rfl (t_X5_turn_63 C hr  _ hf)
  · refine z_aload_n (j := 1) C d_X5_turn_46 rfl ?_
    refine zg_X5_at C rfl tw_388 d_X5_turn_47 ?_
    refine z_aload_n (j := 0) C d_X5_turn_50 rfl ?_
    obtain ⟨hg51_0, hf⟩ := gd hf
    refine zg_X8_after C hg51_0 tw_334 d_X5_turn_51 ?_
    refine z_icmp_lt (tgt := 63) C d_X5_turn_54 (by decide) hf (fun c54 hf => ?_) (fun c54 hf => ?_)
    · exact z_sub [1] rfl (t_X5_turn_63 C hr  _ hf)
    · refine z_aload_n (j := 1) C d_X5_turn_57 rfl ?_
      refine z_aload_n (j := 0) C d_X5_turn_58 rfl ?_
      obtain ⟨q59, hF, hf⟩ := bd hf
      refine z_callV0 (rest := []) C [aR s0] rfl (by decide) rfl rfl k_X5_closeBracket tw_768 ⟨by decide, by decide⟩ (Nat.le_of_ble_eq_true rfl) d_X5_turn_59 (c_X5_closeBracket C.inj hF) rfl ?_
      exact r_v C hr d_X5_turn_62 hf
def f_X5_turn_40 (S : Mem) : Option (Unit × Mem) := (f_X5_turn_41  0 S)
set_option maxRecDepth 20000 in
theorem t_X5_turn_40 {X : MC} {Γ : GG} (C : CX X Γ cX5_turn 4 "TickPools$Runner" 6 173) (hr : X.2.2.2.2.2.2.2.2.1.sig.returnType = none) {q : Unit × Mem} (S : Mem) (hf : f_X5_turn_40 S = some q) : ZZ X Γ 4 (QQ X Γ none q.2) S 40 [(0, aR 9)] [] := by
  unfold f_X5_turn_40 at hf
  refine z_null C d_X5_turn_40 ?_
  exact z_sub [0] rfl (t_X5_turn_41 C hr  _ _ hf)
/-- TickPools$Runner.turn()V -/
def f_X5_turn (S : Mem) : Option (Unit × Mem) := (if (gI S 9 7) ≤ 0 then (f_X5_turn_40  S) else (if 4 < (gI S 9 7) then (f_X5_turn_40  S) else (if inb ((gI S 9 7) - 1) 4 = true then ((f_X6_stepAt (gI S 10 ((((gI S 9 7) - 1) : Int32).toNatClampNeg)) S).bind fun q34 => (f_X5_turn_41  q34.1 q34.2)) else none)))
set_option maxRecDepth 20000 in
theorem c_X5_turn {l : Launch} {Γ : GG} (hI : Inj Γ) {S : Mem} {q : Unit × Mem} (hf : f_X5_turn S = some q) : MM l Γ yX5_turn cX5_turn 4 (none) 6 173 [aR 9] S none q.2 := by
  refine met_of hI "TickPools$Runner" rfl (by decide +kernel) (Nat.le_of_ble_eq_true rfl) (fun X hX C hr => ?_)
  unfold f_X5_turn at hf
  show ZZ X Γ 4 _ S 0 [(0, aR 9)] []
  refine z_aload_n (j := 0) C d_X5_turn_0 rfl ?_
  refine zg_X5_deep C rfl tw_389 d_X5_turn_1 ?_
  refine z_if_le (tgt := 40) C d_X5_turn_4 (by decide) hf (fun c4 hf => ?_) (fun c4 hf => ?_)
  · exact z_sub [0] rfl (t_X5_turn_40 C hr  _ hf)
  · refine z_aload_n (j := 0) C d_X5_turn_7 rfl ?_
    refine zg_X5_deep C rfl tw_389 d_X5_turn_8 ?_
    refine z_aload_n (j := 0) C d_X5_turn_11 rfl ?_
    refine zg_X5_open C rfl tw_391 d_X5_turn_12 ?_
    refine z_alen (v := 4) C rfl (by decide) (by decide) d_X5_turn_15 ?_
    refine z_icmp_gt (tgt := 40) C d_X5_turn_16 (by decide) hf (fun c16 hf => ?_) (fun c16 hf => ?_)
    · exact z_sub [0] rfl (t_X5_turn_40 C hr  _ hf)
    · refine z_aload_n (j := 0) C d_X5_turn_19 rfl ?_
      refine zg_X5_script C rfl tw_385 d_X5_turn_20 ?_
      refine z_aload_n (j := 0) C d_X5_turn_23 rfl ?_
      refine zg_X5_open C rfl tw_391 d_X5_turn_24 ?_
      refine z_aload_n (j := 0) C d_X5_turn_27 rfl ?_
      refine zg_X5_deep C rfl tw_389 d_X5_turn_28 ?_
      refine z_iconst (v := 1) C d_X5_turn_31 (by decide) ?_
      refine z_isub C d_X5_turn_32 ?_
      obtain ⟨hi33_0, hf⟩ := gd hf
      refine z_iald C rfl hi33_0 d_X5_turn_33 ?_
      obtain ⟨q34, hF, hf⟩ := bd hf
      refine z_callV1 (rest := []) C [aI (gI S 10 ((((gI S 9 7) - 1) : Int32).toNatClampNeg))] rfl (by decide) rfl rfl k_X6_stepAt tw_767 ⟨by decide, by decide⟩ (Nat.le_of_ble_eq_true rfl) d_X5_turn_34 (c_X6_stepAt C.inj hF) rfl ?_
      refine z_goto (tgt := 41) C d_X5_turn_37 (by decide) ?_
      exact z_sub [0] rfl (t_X5_turn_41 C hr  _ _ hf)
theorem d_X6_kindOfWord_0 : decode cX6_kindOfWord 0 = .ok (.aload_n 0, 1) := by decide +kernel
theorem d_X6_kindOfWord_1 : decode cX6_kindOfWord 1 = .ok (.getfield 9, 3) := by decide +kernel
theorem d_X6_kindOfWord_4 : decode cX6_kindOfWord 4 = .ok (.ldc 105, 2) := by decide +kernel
theorem d_X6_kindOfWord_6 : decode cX6_kindOfWord 6 = .ok (.invokevirtual 107, 3) := by decide +kernel
theorem d_X6_kindOfWord_9 : decode cX6_kindOfWord 9 = .ok (.ifCond .eq 5, 3) := by decide +kernel
theorem d_X6_kindOfWord_12 : decode cX6_kindOfWord 12 = .ok (.iconst 0, 1) := by decide +kernel
theorem d_X6_kindOfWord_13 : decode cX6_kindOfWord 13 = .ok (.ireturn, 1) := by decide +kernel
theorem d_X6_kindOfWord_14 : decode cX6_kindOfWord 14 = .ok (.aload_n 0, 1) := by decide +kernel
theorem d_X6_kindOfWord_15 : decode cX6_kindOfWord 15 = .ok (.getfield 9, 3) := by decide +kernel
theorem d_X6_kindOfWord_18 : decode cX6_kindOfWord 18 = .ok (.ldc 111, 2) := by decide +kernel
theorem d_X6_kindOfWord_20 : decode cX6_kindOfWord 20 = .ok (.invokevirtual 107, 3) := by decide +kernel
theorem d_X6_kindOfWord_23 : decode cX6_kindOfWord 23 = .ok (.ifCond .eq 5, 3) := by decide +kernel
theorem d_X6_kindOfWord_26 : decode cX6_kindOfWord 26 = .ok (.iconst 1, 1) := by decide +kernel
theorem d_X6_kindOfWord_27 : decode cX6_kindOfWord 27 = .ok (.ireturn, 1) := by decide +kernel
theorem d_X6_kindOfWord_28 : decode cX6_kindOfWord 28 = .ok (.aload_n 0, 1) := by decide +kernel
theorem d_X6_kindOfWord_29 : decode cX6_kindOfWord 29 = .ok (.getfield 9, 3) := by decide +kernel
theorem d_X6_kindOfWord_32 : decode cX6_kindOfWord 32 = .ok (.ldc 113, 2) := by decide +kernel
theorem d_X6_kindOfWord_34 : decode cX6_kindOfWord 34 = .ok (.invokevirtual 107, 3) := by decide +kernel
theorem d_X6_kindOfWord_37 : decode cX6_kindOfWord 37 = .ok (.ifCond .eq 5, 3) := by decide +kernel
theorem d_X6_kindOfWord_40 : decode cX6_kindOfWord 40 = .ok (.iconst 2, 1) := by decide +kernel
theorem d_X6_kindOfWord_41 : decode cX6_kindOfWord 41 = .ok (.ireturn, 1) := by decide +kernel
theorem d_X6_kindOfWord_42 : decode cX6_kindOfWord 42 = .ok (.aload_n 0, 1) := by decide +kernel
theorem d_X6_kindOfWord_43 : decode cX6_kindOfWord 43 = .ok (.getfield 9, 3) := by decide +kernel
theorem d_X6_kindOfWord_46 : decode cX6_kindOfWord 46 = .ok (.ldc 115, 2) := by decide +kernel
theorem d_X6_kindOfWord_48 : decode cX6_kindOfWord 48 = .ok (.invokevirtual 107, 3) := by decide +kernel
theorem d_X6_kindOfWord_51 : decode cX6_kindOfWord 51 = .ok (.ifCond .eq 5, 3) := by decide +kernel
theorem d_X6_kindOfWord_54 : decode cX6_kindOfWord 54 = .ok (.iconst 3, 1) := by decide +kernel
theorem d_X6_kindOfWord_55 : decode cX6_kindOfWord 55 = .ok (.ireturn, 1) := by decide +kernel
theorem d_X6_kindOfWord_56 : decode cX6_kindOfWord 56 = .ok (.aload_n 0, 1) := by decide +kernel
theorem d_X6_kindOfWord_57 : decode cX6_kindOfWord 57 = .ok (.getfield 9, 3) := by decide +kernel
theorem d_X6_kindOfWord_60 : decode cX6_kindOfWord 60 = .ok (.ldc 117, 2) := by decide +kernel
theorem d_X6_kindOfWord_62 : decode cX6_kindOfWord 62 = .ok (.invokevirtual 107, 3) := by decide +kernel
theorem d_X6_kindOfWord_65 : decode cX6_kindOfWord 65 = .ok (.ifCond .eq 5, 3) := by decide +kernel
theorem d_X6_kindOfWord_68 : decode cX6_kindOfWord 68 = .ok (.iconst 4, 1) := by decide +kernel
theorem d_X6_kindOfWord_69 : decode cX6_kindOfWord 69 = .ok (.ireturn, 1) := by decide +kernel
theorem d_X6_kindOfWord_70 : decode cX6_kindOfWord 70 = .ok (.aload_n 0, 1) := by decide +kernel
theorem d_X6_kindOfWord_71 : decode cX6_kindOfWord 71 = .ok (.getfield 9, 3) := by decide +kernel
theorem d_X6_kindOfWord_74 : decode cX6_kindOfWord 74 = .ok (.ldc 119, 2) := by decide +kernel
theorem d_X6_kindOfWord_76 : decode cX6_kindOfWord 76 = .ok (.invokevirtual 107, 3) := by decide +kernel
theorem d_X6_kindOfWord_79 : decode cX6_kindOfWord 79 = .ok (.ifCond .eq 5, 3) := by decide +kernel
theorem d_X6_kindOfWord_82 : decode cX6_kindOfWord 82 = .ok (.iconst 5, 1) := by decide +kernel
theorem d_X6_kindOfWord_83 : decode cX6_kindOfWord 83 = .ok (.ireturn, 1) := by decide +kernel
theorem d_X6_kindOfWord_84 : decode cX6_kindOfWord 84 = .ok (.aload_n 0, 1) := by decide +kernel
theorem d_X6_kindOfWord_85 : decode cX6_kindOfWord 85 = .ok (.getfield 9, 3) := by decide +kernel
theorem d_X6_kindOfWord_88 : decode cX6_kindOfWord 88 = .ok (.ldc 121, 2) := by decide +kernel
theorem d_X6_kindOfWord_90 : decode cX6_kindOfWord 90 = .ok (.invokevirtual 107, 3) := by decide +kernel
theorem d_X6_kindOfWord_93 : decode cX6_kindOfWord 93 = .ok (.ifCond .eq 8, 3) := by decide +kernel
theorem d_X6_kindOfWord_96 : decode cX6_kindOfWord 96 = .ok (.bipush 6, 2) := by decide +kernel
theorem d_X6_kindOfWord_98 : decode cX6_kindOfWord 98 = .ok (.goto 4, 3) := by decide +kernel
theorem d_X6_kindOfWord_101 : decode cX6_kindOfWord 101 = .ok (.iconst (-1), 1) := by decide +kernel
theorem d_X6_kindOfWord_102 : decode cX6_kindOfWord 102 = .ok (.ireturn, 1) := by decide +kernel
def f_X6_kindOfWord_102 (s0 : Int32) (S : Mem) : Option (Int32 × Mem) := (some (s0, S))
set_option maxRecDepth 20000 in
theorem t_X6_kindOfWord_102 {X : MC} {Γ : GG} (C : CX X Γ cX6_kindOfWord 1 "TickPools$Script" 5 108) (hr : X.2.2.2.2.2.2.2.2.1.sig.returnType = some .int) {q : Int32 × Mem} (s0 : Int32) (S : Mem) (hf : f_X6_kindOfWord_102 s0 S = some q) : ZZ X Γ 1 (QQ X Γ (some (aI q.1)) q.2) S 102 [] [aI s0] := by
  unfold f_X6_kindOfWord_102 at hf
  exact r_i C hr rfl d_X6_kindOfWord_102 hf
/-- TickPools$Script.kindOfWord()I -/
def f_X6_kindOfWord (S : Mem) : Option (Int32 × Mem) := ((f_X9_wordIs 304 S).bind fun q6 => (if q6.1 = 0 then ((f_X9_wordIs 305 q6.2).bind fun q20 => (if q20.1 = 0 then ((f_X9_wordIs 306 q20.2).bind fun q34 => (if q34.1 = 0 then ((f_X9_wordIs 307 q34.2).bind fun q48 => (if q48.1 = 0 then ((f_X9_wordIs 308 q48.2).bind fun q62 => (if q62.1 = 0 then ((f_X9_wordIs 309 q62.2).bind fun q76 => (if q76.1 = 0 then ((f_X9_wordIs 310 q76.2).bind fun q90 => (if q90.1 = 0 then (f_X6_kindOfWord_102  (-1) q90.2) else (f_X6_kindOfWord_102  6 q90.2))) else (some (5, q76.2)))) else (some (4, q62.2)))) else (some (3, q48.2)))) else (some (2, q34.2)))) else (some (1, q20.2)))) else (some (0, q6.2))))
set_option maxRecDepth 20000 in
theorem c_X6_kindOfWord {l : Launch} {Γ : GG} (hI : Inj Γ) {S : Mem} {q : Int32 × Mem} (hf : f_X6_kindOfWord S = some q) : MM l Γ yX6_kindOfWord cX6_kindOfWord 1 (some .int) 5 108 [aR 6] S (some (aI q.1)) q.2 := by
  refine met_of hI "TickPools$Script" rfl (by decide +kernel) (Nat.le_of_ble_eq_true rfl) (fun X hX C hr => ?_)
  unfold f_X6_kindOfWord at hf
  show ZZ X Γ 1 _ S 0 [(0, aR 6)] []
  refine z_aload_n (j := 0) C d_X6_kindOfWord_0 rfl ?_
  refine zg_X6_tape C rfl tw_359 d_X6_kindOfWord_1 ?_
  refine z_ldcS (i := 3) C rfl d_X6_kindOfWord_4 ?_
  obtain ⟨q6, hF, hf⟩ := bd hf
  refine z_callV1 (rest := []) C [aR 304] rfl (by decide) rfl rfl k_X9_wordIs tw_702 ⟨by decide, by decide⟩ (Nat.le_of_ble_eq_true rfl) d_X6_kindOfWord_6 (c_X9_wordIs C.inj hF) rfl ?_
  refine z_if_eq (tgt := 14) C d_X6_kindOfWord_9 (by decide) hf (fun c9 hf => ?_) (fun c9 hf => ?_)
  · refine z_aload_n (j := 0) C d_X6_kindOfWord_14 rfl ?_
    refine zg_X6_tape C rfl tw_359 d_X6_kindOfWord_15 ?_
    refine z_ldcS (i := 4) C rfl d_X6_kindOfWord_18 ?_
    obtain ⟨q20, hF, hf⟩ := bd hf
    refine z_callV1 (rest := []) C [aR 305] rfl (by decide) rfl rfl k_X9_wordIs tw_702 ⟨by decide, by decide⟩ (Nat.le_of_ble_eq_true rfl) d_X6_kindOfWord_20 (c_X9_wordIs C.inj hF) rfl ?_
    refine z_if_eq (tgt := 28) C d_X6_kindOfWord_23 (by decide) hf (fun c23 hf => ?_) (fun c23 hf => ?_)
    · refine z_aload_n (j := 0) C d_X6_kindOfWord_28 rfl ?_
      refine zg_X6_tape C rfl tw_359 d_X6_kindOfWord_29 ?_
      refine z_ldcS (i := 5) C rfl d_X6_kindOfWord_32 ?_
      obtain ⟨q34, hF, hf⟩ := bd hf
      refine z_callV1 (rest := []) C [aR 306] rfl (by decide) rfl rfl k_X9_wordIs tw_702 ⟨by decide, by decide⟩ (Nat.le_of_ble_eq_true rfl) d_X6_kindOfWord_34 (c_X9_wordIs C.inj hF) rfl ?_
      refine z_if_eq (tgt := 42) C d_X6_kindOfWord_37 (by decide) hf (fun c37 hf => ?_) (fun c37 hf => ?_)
      · refine z_aload_n (j := 0) C d_X6_kindOfWord_42 rfl ?_
        refine zg_X6_tape C rfl tw_359 d_X6_kindOfWord_43 ?_
        refine z_ldcS (i := 6) C rfl d_X6_kindOfWord_46 ?_
        obtain ⟨q48, hF, hf⟩ := bd hf
        refine z_callV1 (rest := []) C [aR 307] rfl (by decide) rfl rfl k_X9_wordIs tw_702 ⟨by decide, by decide⟩ (Nat.le_of_ble_eq_true rfl) d_X6_kindOfWord_48 (c_X9_wordIs C.inj hF) rfl ?_
        refine z_if_eq (tgt := 56) C d_X6_kindOfWord_51 (by decide) hf (fun c51 hf => ?_) (fun c51 hf => ?_)
        · refine z_aload_n (j := 0) C d_X6_kindOfWord_56 rfl ?_
          refine zg_X6_tape C rfl tw_359 d_X6_kindOfWord_57 ?_
          refine z_ldcS (i := 7) C rfl d_X6_kindOfWord_60 ?_
          obtain ⟨q62, hF, hf⟩ := bd hf
          refine z_callV1 (rest := []) C [aR 308] rfl (by decide) rfl rfl k_X9_wordIs tw_702 ⟨by decide, by decide⟩ (Nat.le_of_ble_eq_true rfl) d_X6_kindOfWord_62 (c_X9_wordIs C.inj hF) rfl ?_
          refine z_if_eq (tgt := 70) C d_X6_kindOfWord_65 (by decide) hf (fun c65 hf => ?_) (fun c65 hf => ?_)
          · refine z_aload_n (j := 0) C d_X6_kindOfWord_70 rfl ?_
            refine zg_X6_tape C rfl tw_359 d_X6_kindOfWord_71 ?_
            refine z_ldcS (i := 8) C rfl d_X6_kindOfWord_74 ?_
            obtain ⟨q76, hF, hf⟩ := bd hf
            refine z_callV1 (rest := []) C [aR 309] rfl (by decide) rfl rfl k_X9_wordIs tw_702 ⟨by decide, by decide⟩ (Nat.le_of_ble_eq_true rfl) d_X6_kindOfWord_76 (c_X9_wordIs C.inj hF) rfl ?_
            refine z_if_eq (tgt := 84) C d_X6_kindOfWord_79 (by decide) hf (fun c79 hf => ?_) (fun c79 hf => ?_)
            · refine z_aload_n (j := 0) C d_X6_kindOfWord_84 rfl ?_
              refine zg_X6_tape C rfl tw_359 d_X6_kindOfWord_85 ?_
              refine z_ldcS (i := 9) C rfl d_X6_kindOfWord_88 ?_
              obtain ⟨q90, hF, hf⟩ := bd hf
              refine z_callV1 (rest := []) C [aR 310] rfl (by decide) rfl rfl k_X9_wordIs tw_702 ⟨by decide, by decide⟩ (Nat.le_of_ble_eq_true rfl) d_X6_kindOfWord_90 (c_X9_wordIs C.inj hF) rfl ?_
              refine z_if_eq (tgt := 101) C d_X6_kindOfWord_93 (by decide) hf (fun c93 hf => ?_) (fun c93 hf => ?_)
              · refine z_iconst (v := (-1)) C d_X6_kindOfWord_101 (by decide) ?_
                exact z_sub [] rfl (t_X6_kindOfWord_102 C hr  _ _ hf)
              · refine z_bipush (v := 6) C d_X6_kindOfWord_96 (by decide) ?_
                refine z_goto (tgt := 102) C d_X6_kindOfWord_98 (by decide) ?_
                exact z_sub [] rfl (t_X6_kindOfWord_102 C hr  _ _ hf)
            · refine z_iconst (v := 5) C d_X6_kindOfWord_82 (by decide) ?_
              exact r_i C hr rfl d_X6_kindOfWord_83 hf
          · refine z_iconst (v := 4) C d_X6_kindOfWord_68 (by decide) ?_
            exact r_i C hr rfl d_X6_kindOfWord_69 hf
        · refine z_iconst (v := 3) C d_X6_kindOfWord_54 (by decide) ?_
          exact r_i C hr rfl d_X6_kindOfWord_55 hf
      · refine z_iconst (v := 2) C d_X6_kindOfWord_40 (by decide) ?_
        exact r_i C hr rfl d_X6_kindOfWord_41 hf
    · refine z_iconst (v := 1) C d_X6_kindOfWord_26 (by decide) ?_
      exact r_i C hr rfl d_X6_kindOfWord_27 hf
  · refine z_iconst (v := 0) C d_X6_kindOfWord_12 (by decide) ?_
    exact r_i C hr rfl d_X6_kindOfWord_13 hf
theorem d_X6_readRange_0 : decode cX6_readRange 0 = .ok (.aload_n 0, 1) := by decide +kernel
theorem d_X6_readRange_1 : decode cX6_readRange 1 = .ok (.getfield 9, 3) := by decide +kernel
theorem d_X6_readRange_4 : decode cX6_readRange 4 = .ok (.iconst 0, 1) := by decide +kernel
theorem d_X6_readRange_5 : decode cX6_readRange 5 = .ok (.iconst 4, 1) := by decide +kernel
theorem d_X6_readRange_6 : decode cX6_readRange 6 = .ok (.invokevirtual 123, 3) := by decide +kernel
theorem d_X6_readRange_9 : decode cX6_readRange 9 = .ok (.ifCond .ne 5, 3) := by decide +kernel
theorem d_X6_readRange_12 : decode cX6_readRange 12 = .ok (.iconst 0, 1) := by decide +kernel
theorem d_X6_readRange_13 : decode cX6_readRange 13 = .ok (.ireturn, 1) := by decide +kernel
theorem d_X6_readRange_14 : decode cX6_readRange 14 = .ok (.aload_n 1, 1) := by decide +kernel
theorem d_X6_readRange_15 : decode cX6_readRange 15 = .ok (.aload_n 0, 1) := by decide +kernel
theorem d_X6_readRange_16 : decode cX6_readRange 16 = .ok (.getfield 9, 3) := by decide +kernel
theorem d_X6_readRange_19 : decode cX6_readRange 19 = .ok (.getfield 127, 3) := by decide +kernel
theorem d_X6_readRange_22 : decode cX6_readRange 22 = .ok (.putfield 130, 3) := by decide +kernel
theorem d_X6_readRange_25 : decode cX6_readRange 25 = .ok (.aload_n 0, 1) := by decide +kernel
theorem d_X6_readRange_26 : decode cX6_readRange 26 = .ok (.getfield 9, 3) := by decide +kernel
theorem d_X6_readRange_29 : decode cX6_readRange 29 = .ok (.iconst 0, 1) := by decide +kernel
theorem d_X6_readRange_30 : decode cX6_readRange 30 = .ok (.bipush 40, 2) := by decide +kernel
theorem d_X6_readRange_32 : decode cX6_readRange 32 = .ok (.invokevirtual 123, 3) := by decide +kernel
theorem d_X6_readRange_35 : decode cX6_readRange 35 = .ok (.ifCond .ne 5, 3) := by decide +kernel
theorem d_X6_readRange_38 : decode cX6_readRange 38 = .ok (.iconst 0, 1) := by decide +kernel
theorem d_X6_readRange_39 : decode cX6_readRange 39 = .ok (.ireturn, 1) := by decide +kernel
theorem d_X6_readRange_40 : decode cX6_readRange 40 = .ok (.aload_n 1, 1) := by decide +kernel
theorem d_X6_readRange_41 : decode cX6_readRange 41 = .ok (.aload_n 0, 1) := by decide +kernel
theorem d_X6_readRange_42 : decode cX6_readRange 42 = .ok (.getfield 9, 3) := by decide +kernel
theorem d_X6_readRange_45 : decode cX6_readRange 45 = .ok (.getfield 127, 3) := by decide +kernel
theorem d_X6_readRange_48 : decode cX6_readRange 48 = .ok (.putfield 136, 3) := by decide +kernel
theorem d_X6_readRange_51 : decode cX6_readRange 51 = .ok (.aload_n 0, 1) := by decide +kernel
theorem d_X6_readRange_52 : decode cX6_readRange 52 = .ok (.getfield 9, 3) := by decide +kernel
theorem d_X6_readRange_55 : decode cX6_readRange 55 = .ok (.iconst 0, 1) := by decide +kernel
theorem d_X6_readRange_56 : decode cX6_readRange 56 = .ok (.bipush 40, 2) := by decide +kernel
theorem d_X6_readRange_58 : decode cX6_readRange 58 = .ok (.invokevirtual 123, 3) := by decide +kernel
theorem d_X6_readRange_61 : decode cX6_readRange 61 = .ok (.ifCond .ne 5, 3) := by decide +kernel
theorem d_X6_readRange_64 : decode cX6_readRange 64 = .ok (.iconst 0, 1) := by decide +kernel
theorem d_X6_readRange_65 : decode cX6_readRange 65 = .ok (.ireturn, 1) := by decide +kernel
theorem d_X6_readRange_66 : decode cX6_readRange 66 = .ok (.aload_n 1, 1) := by decide +kernel
theorem d_X6_readRange_67 : decode cX6_readRange 67 = .ok (.aload_n 0, 1) := by decide +kernel
theorem d_X6_readRange_68 : decode cX6_readRange 68 = .ok (.getfield 9, 3) := by decide +kernel
theorem d_X6_readRange_71 : decode cX6_readRange 71 = .ok (.getfield 127, 3) := by decide +kernel
theorem d_X6_readRange_74 : decode cX6_readRange 74 = .ok (.putfield 139, 3) := by decide +kernel
theorem d_X6_readRange_77 : decode cX6_readRange 77 = .ok (.iconst 1, 1) := by decide +kernel
theorem d_X6_readRange_78 : decode cX6_readRange 78 = .ok (.ireturn, 1) := by decide +kernel
/-- TickPools$Script.readRange(LTickPools$Step;)Z -/
def f_X6_readRange (p1 : Nat) (S : Mem) : Option (Int32 × Mem) := ((f_X9_readNumber 0 4 S).bind fun q6 => (if q6.1 = 0 then (some (0, q6.2)) else (if kd p1 = (7, 10) then ((f_X9_readNumber 0 40 (sI q6.2 p1 2 (gI q6.2 2 2))).bind fun q32 => (if q32.1 = 0 then (some (0, q32.2)) else ((f_X9_readNumber 0 40 (sI q32.2 p1 4 (gI q32.2 2 2))).bind fun q58 => (if q58.1 = 0 then (some (0, q58.2)) else (some (1, (sI q58.2 p1 5 (gI q58.2 2 2)))))))) else none)))
set_option maxRecDepth 20000 in
theorem c_X6_readRange {l : Launch} {Γ : GG} (hI : Inj Γ) {p1 : Nat} {S : Mem} {q : Int32 × Mem} (hf : f_X6_readRange p1 S = some q) : MM l Γ yX6_readRange cX6_readRange 2 (some .boolean) 3 65 [aR 6, aR p1] S (some (aI q.1)) q.2 := by
  refine met_of hI "TickPools$Script" rfl (by decide +kernel) (Nat.le_of_ble_eq_true rfl) (fun X hX C hr => ?_)
  unfold f_X6_readRange at hf
  show ZZ X Γ 2 _ S 0 [(0, aR 6), (1, aR p1)] []
  refine z_aload_n (j := 0) C d_X6_readRange_0 rfl ?_
  refine zg_X6_tape C rfl tw_359 d_X6_readRange_1 ?_
  refine z_iconst (v := 0) C d_X6_readRange_4 (by decide) ?_
  refine z_iconst (v := 4) C d_X6_readRange_5 (by decide) ?_
  obtain ⟨q6, hF, hf⟩ := bd hf
  refine z_callV1 (rest := []) C [aI 0, aI 4] rfl (by decide) rfl rfl k_X9_readNumber tw_714 ⟨by decide, by decide⟩ (Nat.le_of_ble_eq_true rfl) d_X6_readRange_6 (c_X9_readNumber C.inj hF) rfl ?_
  refine z_if_ne (tgt := 14) C d_X6_readRange_9 (by decide) hf (fun c9 hf => ?_) (fun c9 hf => ?_)
  · refine z_aload_n (j := 1) C d_X6_readRange_14 rfl ?_
    refine z_aload_n (j := 0) C d_X6_readRange_15 rfl ?_
    refine zg_X6_tape C rfl tw_359 d_X6_readRange_16 ?_
    refine zg_X9_value C rfl tw_38 d_X6_readRange_19 ?_
    obtain ⟨hg22_0, hf⟩ := gd hf
    refine zp_X8_pool C hg22_0 tw_321 d_X6_readRange_22 ?_
    refine z_aload_n (j := 0) C d_X6_readRange_25 rfl ?_
    refine zg_X6_tape C rfl tw_359 d_X6_readRange_26 ?_
    refine z_iconst (v := 0) C d_X6_readRange_29 (by decide) ?_
    refine z_bipush (v := 40) C d_X6_readRange_30 (by decide) ?_
    obtain ⟨q32, hF, hf⟩ := bd hf
    refine z_callV1 (rest := []) C [aI 0, aI 40] rfl (by decide) rfl rfl k_X9_readNumber tw_714 ⟨by decide, by decide⟩ (Nat.le_of_ble_eq_true rfl) d_X6_readRange_32 (c_X9_readNumber C.inj hF) rfl ?_
    refine z_if_ne (tgt := 40) C d_X6_readRange_35 (by decide) hf (fun c35 hf => ?_) (fun c35 hf => ?_)
    · refine z_aload_n (j := 1) C d_X6_readRange_40 rfl ?_
      refine z_aload_n (j := 0) C d_X6_readRange_41 rfl ?_
      refine zg_X6_tape C rfl tw_359 d_X6_readRange_42 ?_
      refine zg_X9_value C rfl tw_38 d_X6_readRange_45 ?_
      refine zp_X8_low C hg22_0 tw_325 d_X6_readRange_48 ?_
      refine z_aload_n (j := 0) C d_X6_readRange_51 rfl ?_
      refine zg_X6_tape C rfl tw_359 d_X6_readRange_52 ?_
      refine z_iconst (v := 0) C d_X6_readRange_55 (by decide) ?_
      refine z_bipush (v := 40) C d_X6_readRange_56 (by decide) ?_
      obtain ⟨q58, hF, hf⟩ := bd hf
      refine z_callV1 (rest := []) C [aI 0, aI 40] rfl (by decide) rfl rfl k_X9_readNumber tw_714 ⟨by decide, by decide⟩ (Nat.le_of_ble_eq_true rfl) d_X6_readRange_58 (c_X9_readNumber C.inj hF) rfl ?_
      refine z_if_ne (tgt := 66) C d_X6_readRange_61 (by decide) hf (fun c61 hf => ?_) (fun c61 hf => ?_)
      · refine z_aload_n (j := 1) C d_X6_readRange_66 rfl ?_
        refine z_aload_n (j := 0) C d_X6_readRange_67 rfl ?_
        refine zg_X6_tape C rfl tw_359 d_X6_readRange_68 ?_
        refine zg_X9_value C rfl tw_38 d_X6_readRange_71 ?_
        refine zp_X8_high C hg22_0 tw_327 d_X6_readRange_74 ?_
        refine z_iconst (v := 1) C d_X6_readRange_77 (by decide) ?_
        exact r_i C hr (by decide) d_X6_readRange_78 hf
      · refine z_iconst (v := 0) C d_X6_readRange_64 (by decide) ?_
        exact r_i C hr (by decide) d_X6_readRange_65 hf
    · refine z_iconst (v := 0) C d_X6_readRange_38 (by decide) ?_
      exact r_i C hr (by decide) d_X6_readRange_39 hf
  · refine z_iconst (v := 0) C d_X6_readRange_12 (by decide) ?_
    exact r_i C hr (by decide) d_X6_readRange_13 hf
theorem d_X6_readAmount_0 : decode cX6_readAmount 0 = .ok (.aload_n 0, 1) := by decide +kernel
theorem d_X6_readAmount_1 : decode cX6_readAmount 1 = .ok (.getfield 9, 3) := by decide +kernel
theorem d_X6_readAmount_4 : decode cX6_readAmount 4 = .ok (.iload_n 2, 1) := by decide +kernel
theorem d_X6_readAmount_5 : decode cX6_readAmount 5 = .ok (.iload_n 3, 1) := by decide +kernel
theorem d_X6_readAmount_6 : decode cX6_readAmount 6 = .ok (.invokevirtual 123, 3) := by decide +kernel
theorem d_X6_readAmount_9 : decode cX6_readAmount 9 = .ok (.ifCond .ne 5, 3) := by decide +kernel
theorem d_X6_readAmount_12 : decode cX6_readAmount 12 = .ok (.iconst 0, 1) := by decide +kernel
theorem d_X6_readAmount_13 : decode cX6_readAmount 13 = .ok (.ireturn, 1) := by decide +kernel
theorem d_X6_readAmount_14 : decode cX6_readAmount 14 = .ok (.aload_n 1, 1) := by decide +kernel
theorem d_X6_readAmount_15 : decode cX6_readAmount 15 = .ok (.aload_n 0, 1) := by decide +kernel
theorem d_X6_readAmount_16 : decode cX6_readAmount 16 = .ok (.getfield 9, 3) := by decide +kernel
theorem d_X6_readAmount_19 : decode cX6_readAmount 19 = .ok (.getfield 127, 3) := by decide +kernel
theorem d_X6_readAmount_22 : decode cX6_readAmount 22 = .ok (.putfield 146, 3) := by decide +kernel
theorem d_X6_readAmount_25 : decode cX6_readAmount 25 = .ok (.iconst 1, 1) := by decide +kernel
theorem d_X6_readAmount_26 : decode cX6_readAmount 26 = .ok (.ireturn, 1) := by decide +kernel
/-- TickPools$Script.readAmount(LTickPools$Step;II)Z -/
def f_X6_readAmount (p1 : Nat) (p2 : Int32) (p3 : Int32) (S : Mem) : Option (Int32 × Mem) := ((f_X9_readNumber p2 p3 S).bind fun q6 => (if q6.1 = 0 then (some (0, q6.2)) else (if kd p1 = (7, 10) then (some (1, (sI q6.2 p1 7 (gI q6.2 2 2)))) else none)))
set_option maxRecDepth 20000 in
theorem c_X6_readAmount {l : Launch} {Γ : GG} (hI : Inj Γ) {p1 : Nat} {p2 : Int32} {p3 : Int32} {S : Mem} {q : Int32 × Mem} (hf : f_X6_readAmount p1 p2 p3 S = some q) : MM l Γ yX6_readAmount cX6_readAmount 4 (some .boolean) 3 65 [aR 6, aR p1, aI p2, aI p3] S (some (aI q.1)) q.2 := by
  refine met_of hI "TickPools$Script" rfl (by decide +kernel) (Nat.le_of_ble_eq_true rfl) (fun X hX C hr => ?_)
  unfold f_X6_readAmount at hf
  show ZZ X Γ 4 _ S 0 [(0, aR 6), (1, aR p1), (2, aI p2), (3, aI p3)] []
  refine z_aload_n (j := 0) C d_X6_readAmount_0 rfl ?_
  refine zg_X6_tape C rfl tw_359 d_X6_readAmount_1 ?_
  refine z_iload_n (j := 2) C d_X6_readAmount_4 rfl ?_
  refine z_iload_n (j := 3) C d_X6_readAmount_5 rfl ?_
  obtain ⟨q6, hF, hf⟩ := bd hf
  refine z_callV1 (rest := []) C [aI p2, aI p3] rfl (by decide) rfl rfl k_X9_readNumber tw_714 ⟨by decide, by decide⟩ (Nat.le_of_ble_eq_true rfl) d_X6_readAmount_6 (c_X9_readNumber C.inj hF) rfl ?_
  refine z_if_ne (tgt := 14) C d_X6_readAmount_9 (by decide) hf (fun c9 hf => ?_) (fun c9 hf => ?_)
  · refine z_aload_n (j := 1) C d_X6_readAmount_14 rfl ?_
    refine z_aload_n (j := 0) C d_X6_readAmount_15 rfl ?_
    refine zg_X6_tape C rfl tw_359 d_X6_readAmount_16 ?_
    refine zg_X9_value C rfl tw_38 d_X6_readAmount_19 ?_
    obtain ⟨hg22_0, hf⟩ := gd hf
    refine zp_X8_amount C hg22_0 tw_331 d_X6_readAmount_22 ?_
    refine z_iconst (v := 1) C d_X6_readAmount_25 (by decide) ?_
    exact r_i C hr (by decide) d_X6_readAmount_26 hf
  · refine z_iconst (v := 0) C d_X6_readAmount_12 (by decide) ?_
    exact r_i C hr (by decide) d_X6_readAmount_13 hf
theorem d_X6_readLeast_0 : decode cX6_readLeast 0 = .ok (.aload_n 0, 1) := by decide +kernel
theorem d_X6_readLeast_1 : decode cX6_readLeast 1 = .ok (.getfield 9, 3) := by decide +kernel
theorem d_X6_readLeast_4 : decode cX6_readLeast 4 = .ok (.iconst 0, 1) := by decide +kernel
theorem d_X6_readLeast_5 : decode cX6_readLeast 5 = .ok (.iconst 4, 1) := by decide +kernel
theorem d_X6_readLeast_6 : decode cX6_readLeast 6 = .ok (.invokevirtual 123, 3) := by decide +kernel
theorem d_X6_readLeast_9 : decode cX6_readLeast 9 = .ok (.ifCond .ne 5, 3) := by decide +kernel
theorem d_X6_readLeast_12 : decode cX6_readLeast 12 = .ok (.iconst 0, 1) := by decide +kernel
theorem d_X6_readLeast_13 : decode cX6_readLeast 13 = .ok (.ireturn, 1) := by decide +kernel
theorem d_X6_readLeast_14 : decode cX6_readLeast 14 = .ok (.aload_n 1, 1) := by decide +kernel
theorem d_X6_readLeast_15 : decode cX6_readLeast 15 = .ok (.aload_n 0, 1) := by decide +kernel
theorem d_X6_readLeast_16 : decode cX6_readLeast 16 = .ok (.getfield 9, 3) := by decide +kernel
theorem d_X6_readLeast_19 : decode cX6_readLeast 19 = .ok (.getfield 127, 3) := by decide +kernel
theorem d_X6_readLeast_22 : decode cX6_readLeast 22 = .ok (.putfield 142, 3) := by decide +kernel
theorem d_X6_readLeast_25 : decode cX6_readLeast 25 = .ok (.aload_n 0, 1) := by decide +kernel
theorem d_X6_readLeast_26 : decode cX6_readLeast 26 = .ok (.aload_n 1, 1) := by decide +kernel
theorem d_X6_readLeast_27 : decode cX6_readLeast 27 = .ok (.iconst 0, 1) := by decide +kernel
theorem d_X6_readLeast_28 : decode cX6_readLeast 28 = .ok (.ldc 145, 2) := by decide +kernel
theorem d_X6_readLeast_30 : decode cX6_readLeast 30 = .ok (.invokevirtual 92, 3) := by decide +kernel
theorem d_X6_readLeast_33 : decode cX6_readLeast 33 = .ok (.ireturn, 1) := by decide +kernel
/-- TickPools$Script.readLeast(LTickPools$Step;)Z -/
def f_X6_readLeast (p1 : Nat) (S : Mem) : Option (Int32 × Mem) := ((f_X9_readNumber 0 4 S).bind fun q6 => (if q6.1 = 0 then (some (0, q6.2)) else (if kd p1 = (7, 10) then ((f_X6_readAmount p1 0 9999999 (sI q6.2 p1 6 (gI q6.2 2 2))).bind fun q30 => (if isB q30.1 = true then (some (q30.1, q30.2)) else none)) else none)))
set_option maxRecDepth 20000 in
theorem c_X6_readLeast {l : Launch} {Γ : GG} (hI : Inj Γ) {p1 : Nat} {S : Mem} {q : Int32 × Mem} (hf : f_X6_readLeast p1 S = some q) : MM l Γ yX6_readLeast cX6_readLeast 2 (some .boolean) 4 88 [aR 6, aR p1] S (some (aI q.1)) q.2 := by
  refine met_of hI "TickPools$Script" rfl (by decide +kernel) (Nat.le_of_ble_eq_true rfl) (fun X hX C hr => ?_)
  unfold f_X6_readLeast at hf
  show ZZ X Γ 2 _ S 0 [(0, aR 6), (1, aR p1)] []
  refine z_aload_n (j := 0) C d_X6_readLeast_0 rfl ?_
  refine zg_X6_tape C rfl tw_359 d_X6_readLeast_1 ?_
  refine z_iconst (v := 0) C d_X6_readLeast_4 (by decide) ?_
  refine z_iconst (v := 4) C d_X6_readLeast_5 (by decide) ?_
  obtain ⟨q6, hF, hf⟩ := bd hf
  refine z_callV1 (rest := []) C [aI 0, aI 4] rfl (by decide) rfl rfl k_X9_readNumber tw_714 ⟨by decide, by decide⟩ (Nat.le_of_ble_eq_true rfl) d_X6_readLeast_6 (c_X9_readNumber C.inj hF) rfl ?_
  refine z_if_ne (tgt := 14) C d_X6_readLeast_9 (by decide) hf (fun c9 hf => ?_) (fun c9 hf => ?_)
  · refine z_aload_n (j := 1) C d_X6_readLeast_14 rfl ?_
    refine z_aload_n (j := 0) C d_X6_readLeast_15 rfl ?_
    refine zg_X6_tape C rfl tw_359 d_X6_readLeast_16 ?_
    refine zg_X9_value C rfl tw_38 d_X6_readLeast_19 ?_
    obtain ⟨hg22_0, hf⟩ := gd hf
    refine zp_X8_thing C hg22_0 tw_329 d_X6_readLeast_22 ?_
    refine z_aload_n (j := 0) C d_X6_readLeast_25 rfl ?_
    refine z_aload_n (j := 1) C d_X6_readLeast_26 rfl ?_
    refine z_iconst (v := 0) C d_X6_readLeast_27 (by decide) ?_
    refine z_ldc (v := 9999999) C tw_724 d_X6_readLeast_28 ?_
    obtain ⟨q30, hF, hf⟩ := bd hf
    refine z_callV1 (rest := []) C [aR p1, aI 0, aI 9999999] rfl (by decide) rfl rfl k_X6_readAmount tw_716 ⟨by decide, by decide⟩ (Nat.le_of_ble_eq_true rfl) d_X6_readLeast_30 (c_X6_readAmount C.inj hF) rfl ?_
    obtain ⟨hb33_2, hf⟩ := gd hf
    exact r_i C hr (isB_nar hb33_2).1 d_X6_readLeast_33 hf
  · refine z_iconst (v := 0) C d_X6_readLeast_12 (by decide) ?_
    exact r_i C hr (by decide) d_X6_readLeast_13 hf
theorem d_X6_readPoolAndSide_0 : decode cX6_readPoolAndSide 0 = .ok (.aload_n 0, 1) := by decide +kernel
theorem d_X6_readPoolAndSide_1 : decode cX6_readPoolAndSide 1 = .ok (.getfield 9, 3) := by decide +kernel
theorem d_X6_readPoolAndSide_4 : decode cX6_readPoolAndSide 4 = .ok (.iconst 0, 1) := by decide +kernel
theorem d_X6_readPoolAndSide_5 : decode cX6_readPoolAndSide 5 = .ok (.iconst 4, 1) := by decide +kernel
theorem d_X6_readPoolAndSide_6 : decode cX6_readPoolAndSide 6 = .ok (.invokevirtual 123, 3) := by decide +kernel
theorem d_X6_readPoolAndSide_9 : decode cX6_readPoolAndSide 9 = .ok (.ifCond .ne 5, 3) := by decide +kernel
theorem d_X6_readPoolAndSide_12 : decode cX6_readPoolAndSide 12 = .ok (.iconst 0, 1) := by decide +kernel
theorem d_X6_readPoolAndSide_13 : decode cX6_readPoolAndSide 13 = .ok (.ireturn, 1) := by decide +kernel
theorem d_X6_readPoolAndSide_14 : decode cX6_readPoolAndSide 14 = .ok (.aload_n 1, 1) := by decide +kernel
theorem d_X6_readPoolAndSide_15 : decode cX6_readPoolAndSide 15 = .ok (.aload_n 0, 1) := by decide +kernel
theorem d_X6_readPoolAndSide_16 : decode cX6_readPoolAndSide 16 = .ok (.getfield 9, 3) := by decide +kernel
theorem d_X6_readPoolAndSide_19 : decode cX6_readPoolAndSide 19 = .ok (.getfield 127, 3) := by decide +kernel
theorem d_X6_readPoolAndSide_22 : decode cX6_readPoolAndSide 22 = .ok (.putfield 130, 3) := by decide +kernel
theorem d_X6_readPoolAndSide_25 : decode cX6_readPoolAndSide 25 = .ok (.aload_n 0, 1) := by decide +kernel
theorem d_X6_readPoolAndSide_26 : decode cX6_readPoolAndSide 26 = .ok (.getfield 9, 3) := by decide +kernel
theorem d_X6_readPoolAndSide_29 : decode cX6_readPoolAndSide 29 = .ok (.iconst 0, 1) := by decide +kernel
theorem d_X6_readPoolAndSide_30 : decode cX6_readPoolAndSide 30 = .ok (.iconst 1, 1) := by decide +kernel
theorem d_X6_readPoolAndSide_31 : decode cX6_readPoolAndSide 31 = .ok (.invokevirtual 123, 3) := by decide +kernel
theorem d_X6_readPoolAndSide_34 : decode cX6_readPoolAndSide 34 = .ok (.ifCond .ne 5, 3) := by decide +kernel
theorem d_X6_readPoolAndSide_37 : decode cX6_readPoolAndSide 37 = .ok (.iconst 0, 1) := by decide +kernel
theorem d_X6_readPoolAndSide_38 : decode cX6_readPoolAndSide 38 = .ok (.ireturn, 1) := by decide +kernel
theorem d_X6_readPoolAndSide_39 : decode cX6_readPoolAndSide 39 = .ok (.aload_n 1, 1) := by decide +kernel
theorem d_X6_readPoolAndSide_40 : decode cX6_readPoolAndSide 40 = .ok (.aload_n 0, 1) := by decide +kernel
theorem d_X6_readPoolAndSide_41 : decode cX6_readPoolAndSide 41 = .ok (.getfield 9, 3) := by decide +kernel
theorem d_X6_readPoolAndSide_44 : decode cX6_readPoolAndSide 44 = .ok (.getfield 127, 3) := by decide +kernel
theorem d_X6_readPoolAndSide_47 : decode cX6_readPoolAndSide 47 = .ok (.putfield 133, 3) := by decide +kernel
theorem d_X6_readPoolAndSide_50 : decode cX6_readPoolAndSide 50 = .ok (.iconst 1, 1) := by decide +kernel
theorem d_X6_readPoolAndSide_51 : decode cX6_readPoolAndSide 51 = .ok (.ireturn, 1) := by decide +kernel
/-- TickPools$Script.readPoolAndSide(LTickPools$Step;)Z -/
def f_X6_readPoolAndSide (p1 : Nat) (S : Mem) : Option (Int32 × Mem) := ((f_X9_readNumber 0 4 S).bind fun q6 => (if q6.1 = 0 then (some (0, q6.2)) else (if kd p1 = (7, 10) then ((f_X9_readNumber 0 1 (sI q6.2 p1 2 (gI q6.2 2 2))).bind fun q31 => (if q31.1 = 0 then (some (0, q31.2)) else (some (1, (sI q31.2 p1 3 (gI q31.2 2 2)))))) else none)))
set_option maxRecDepth 20000 in
theorem c_X6_readPoolAndSide {l : Launch} {Γ : GG} (hI : Inj Γ) {p1 : Nat} {S : Mem} {q : Int32 × Mem} (hf : f_X6_readPoolAndSide p1 S = some q) : MM l Γ yX6_readPoolAndSide cX6_readPoolAndSide 2 (some .boolean) 3 65 [aR 6, aR p1] S (some (aI q.1)) q.2 := by
  refine met_of hI "TickPools$Script" rfl (by decide +kernel) (Nat.le_of_ble_eq_true rfl) (fun X hX C hr => ?_)
  unfold f_X6_readPoolAndSide at hf
  show ZZ X Γ 2 _ S 0 [(0, aR 6), (1, aR p1)] []
  refine z_aload_n (j := 0) C d_X6_readPoolAndSide_0 rfl ?_
  refine zg_X6_tape C rfl tw_359 d_X6_readPoolAndSide_1 ?_
  refine z_iconst (v := 0) C d_X6_readPoolAndSide_4 (by decide) ?_
  refine z_iconst (v := 4) C d_X6_readPoolAndSide_5 (by decide) ?_
  obtain ⟨q6, hF, hf⟩ := bd hf
  refine z_callV1 (rest := []) C [aI 0, aI 4] rfl (by decide) rfl rfl k_X9_readNumber tw_714 ⟨by decide, by decide⟩ (Nat.le_of_ble_eq_true rfl) d_X6_readPoolAndSide_6 (c_X9_readNumber C.inj hF) rfl ?_
  refine z_if_ne (tgt := 14) C d_X6_readPoolAndSide_9 (by decide) hf (fun c9 hf => ?_) (fun c9 hf => ?_)
  · refine z_aload_n (j := 1) C d_X6_readPoolAndSide_14 rfl ?_
    refine z_aload_n (j := 0) C d_X6_readPoolAndSide_15 rfl ?_
    refine zg_X6_tape C rfl tw_359 d_X6_readPoolAndSide_16 ?_
    refine zg_X9_value C rfl tw_38 d_X6_readPoolAndSide_19 ?_
    obtain ⟨hg22_0, hf⟩ := gd hf
    refine zp_X8_pool C hg22_0 tw_321 d_X6_readPoolAndSide_22 ?_
    refine z_aload_n (j := 0) C d_X6_readPoolAndSide_25 rfl ?_
    refine zg_X6_tape C rfl tw_359 d_X6_readPoolAndSide_26 ?_
    refine z_iconst (v := 0) C d_X6_readPoolAndSide_29 (by decide) ?_
    refine z_iconst (v := 1) C d_X6_readPoolAndSide_30 (by decide) ?_
    obtain ⟨q31, hF, hf⟩ := bd hf
    refine z_callV1 (rest := []) C [aI 0, aI 1] rfl (by decide) rfl rfl k_X9_readNumber tw_714 ⟨by decide, by decide⟩ (Nat.le_of_ble_eq_true rfl) d_X6_readPoolAndSide_31 (c_X9_readNumber C.inj hF) rfl ?_
    refine z_if_ne (tgt := 39) C d_X6_readPoolAndSide_34 (by decide) hf (fun c34 hf => ?_) (fun c34 hf => ?_)
    · refine z_aload_n (j := 1) C d_X6_readPoolAndSide_39 rfl ?_
      refine z_aload_n (j := 0) C d_X6_readPoolAndSide_40 rfl ?_
      refine zg_X6_tape C rfl tw_359 d_X6_readPoolAndSide_41 ?_
      refine zg_X9_value C rfl tw_38 d_X6_readPoolAndSide_44 ?_
      refine zp_X8_side C hg22_0 tw_322 d_X6_readPoolAndSide_47 ?_
      refine z_iconst (v := 1) C d_X6_readPoolAndSide_50 (by decide) ?_
      exact r_i C hr (by decide) d_X6_readPoolAndSide_51 hf
    · refine z_iconst (v := 0) C d_X6_readPoolAndSide_37 (by decide) ?_
      exact r_i C hr (by decide) d_X6_readPoolAndSide_38 hf
  · refine z_iconst (v := 0) C d_X6_readPoolAndSide_12 (by decide) ?_
    exact r_i C hr (by decide) d_X6_readPoolAndSide_13 hf
theorem d_X6_readMuch_0 : decode cX6_readMuch 0 = .ok (.aload_n 1, 1) := by decide +kernel
theorem d_X6_readMuch_1 : decode cX6_readMuch 1 = .ok (.iconst 0, 1) := by decide +kernel
theorem d_X6_readMuch_2 : decode cX6_readMuch 2 = .ok (.putfield 149, 3) := by decide +kernel
theorem d_X6_readMuch_5 : decode cX6_readMuch 5 = .ok (.aload_n 0, 1) := by decide +kernel
theorem d_X6_readMuch_6 : decode cX6_readMuch 6 = .ok (.getfield 9, 3) := by decide +kernel
theorem d_X6_readMuch_9 : decode cX6_readMuch 9 = .ok (.invokevirtual 55, 3) := by decide +kernel
theorem d_X6_readMuch_12 : decode cX6_readMuch 12 = .ok (.invokestatic 152, 3) := by decide +kernel
theorem d_X6_readMuch_15 : decode cX6_readMuch 15 = .ok (.ifCond .eq 12, 3) := by decide +kernel
theorem d_X6_readMuch_18 : decode cX6_readMuch 18 = .ok (.aload_n 0, 1) := by decide +kernel
theorem d_X6_readMuch_19 : decode cX6_readMuch 19 = .ok (.aload_n 1, 1) := by decide +kernel
theorem d_X6_readMuch_20 : decode cX6_readMuch 20 = .ok (.iconst 0, 1) := by decide +kernel
theorem d_X6_readMuch_21 : decode cX6_readMuch 21 = .ok (.ldc 145, 2) := by decide +kernel
theorem d_X6_readMuch_23 : decode cX6_readMuch 23 = .ok (.invokevirtual 92, 3) := by decide +kernel
theorem d_X6_readMuch_26 : decode cX6_readMuch 26 = .ok (.ireturn, 1) := by decide +kernel
theorem d_X6_readMuch_27 : decode cX6_readMuch 27 = .ok (.aload_n 0, 1) := by decide +kernel
theorem d_X6_readMuch_28 : decode cX6_readMuch 28 = .ok (.getfield 9, 3) := by decide +kernel
theorem d_X6_readMuch_31 : decode cX6_readMuch 31 = .ok (.invokevirtual 69, 3) := by decide +kernel
theorem d_X6_readMuch_34 : decode cX6_readMuch 34 = .ok (.ifCond .ne 5, 3) := by decide +kernel
theorem d_X6_readMuch_37 : decode cX6_readMuch 37 = .ok (.iconst 0, 1) := by decide +kernel
theorem d_X6_readMuch_38 : decode cX6_readMuch 38 = .ok (.ireturn, 1) := by decide +kernel
theorem d_X6_readMuch_39 : decode cX6_readMuch 39 = .ok (.aload_n 0, 1) := by decide +kernel
theorem d_X6_readMuch_40 : decode cX6_readMuch 40 = .ok (.getfield 9, 3) := by decide +kernel
theorem d_X6_readMuch_43 : decode cX6_readMuch 43 = .ok (.ldc 155, 2) := by decide +kernel
theorem d_X6_readMuch_45 : decode cX6_readMuch 45 = .ok (.invokevirtual 107, 3) := by decide +kernel
theorem d_X6_readMuch_48 : decode cX6_readMuch 48 = .ok (.ifCond .eq 10, 3) := by decide +kernel
theorem d_X6_readMuch_51 : decode cX6_readMuch 51 = .ok (.aload_n 1, 1) := by decide +kernel
theorem d_X6_readMuch_52 : decode cX6_readMuch 52 = .ok (.iconst 1, 1) := by decide +kernel
theorem d_X6_readMuch_53 : decode cX6_readMuch 53 = .ok (.putfield 149, 3) := by decide +kernel
theorem d_X6_readMuch_56 : decode cX6_readMuch 56 = .ok (.iconst 1, 1) := by decide +kernel
theorem d_X6_readMuch_57 : decode cX6_readMuch 57 = .ok (.ireturn, 1) := by decide +kernel
theorem d_X6_readMuch_58 : decode cX6_readMuch 58 = .ok (.aload_n 1, 1) := by decide +kernel
theorem d_X6_readMuch_59 : decode cX6_readMuch 59 = .ok (.iconst 2, 1) := by decide +kernel
theorem d_X6_readMuch_60 : decode cX6_readMuch 60 = .ok (.putfield 149, 3) := by decide +kernel
theorem d_X6_readMuch_63 : decode cX6_readMuch 63 = .ok (.aload_n 0, 1) := by decide +kernel
theorem d_X6_readMuch_64 : decode cX6_readMuch 64 = .ok (.getfield 9, 3) := by decide +kernel
theorem d_X6_readMuch_67 : decode cX6_readMuch 67 = .ok (.ldc 157, 2) := by decide +kernel
theorem d_X6_readMuch_69 : decode cX6_readMuch 69 = .ok (.invokevirtual 107, 3) := by decide +kernel
theorem d_X6_readMuch_72 : decode cX6_readMuch 72 = .ok (.ifCond .ne 14, 3) := by decide +kernel
theorem d_X6_readMuch_75 : decode cX6_readMuch 75 = .ok (.aload_n 0, 1) := by decide +kernel
theorem d_X6_readMuch_76 : decode cX6_readMuch 76 = .ok (.getfield 9, 3) := by decide +kernel
theorem d_X6_readMuch_79 : decode cX6_readMuch 79 = .ok (.iconst 0, 1) := by decide +kernel
theorem d_X6_readMuch_80 : decode cX6_readMuch 80 = .ok (.invokevirtual 75, 3) := by decide +kernel
theorem d_X6_readMuch_83 : decode cX6_readMuch 83 = .ok (.ifCond .eq 7, 3) := by decide +kernel
theorem d_X6_readMuch_86 : decode cX6_readMuch 86 = .ok (.iconst 1, 1) := by decide +kernel
theorem d_X6_readMuch_87 : decode cX6_readMuch 87 = .ok (.goto 4, 3) := by decide +kernel
theorem d_X6_readMuch_90 : decode cX6_readMuch 90 = .ok (.iconst 0, 1) := by decide +kernel
theorem d_X6_readMuch_91 : decode cX6_readMuch 91 = .ok (.ireturn, 1) := by decide +kernel
def f_X6_readMuch_91 (s0 : Int32) (S : Mem) : Option (Int32 × Mem) := (if isB s0 = true then (some (s0, S)) else none)
set_option maxRecDepth 20000 in
theorem t_X6_readMuch_91 {X : MC} {Γ : GG} (C : CX X Γ cX6_readMuch 2 "TickPools$Script" 5 108) (hr : X.2.2.2.2.2.2.2.2.1.sig.returnType = some .boolean) {q : Int32 × Mem} (s0 : Int32) (S : Mem) (hf : f_X6_readMuch_91 s0 S = some q) : ZZ X Γ 2 (QQ X Γ (some (aI q.1)) q.2) S 91 [] [aI s0] := by
  unfold f_X6_readMuch_91 at hf
  obtain ⟨hb91_0, hf⟩ := gd hf
  exact r_i C hr (isB_nar hb91_0).1 d_X6_readMuch_91 hf
def f_X6_readMuch_86 (S : Mem) : Option (Int32 × Mem) := (f_X6_readMuch_91  1 S)
set_option maxRecDepth 20000 in
theorem t_X6_readMuch_86 {X : MC} {Γ : GG} (C : CX X Γ cX6_readMuch 2 "TickPools$Script" 5 108) (hr : X.2.2.2.2.2.2.2.2.1.sig.returnType = some .boolean) {q : Int32 × Mem} (S : Mem) (hf : f_X6_readMuch_86 S = some q) : ZZ X Γ 2 (QQ X Γ (some (aI q.1)) q.2) S 86 [] [] := by
  unfold f_X6_readMuch_86 at hf
  refine z_iconst (v := 1) C d_X6_readMuch_86 (by decide) ?_
  refine z_goto (tgt := 91) C d_X6_readMuch_87 (by decide) ?_
  exact z_sub [] rfl (t_X6_readMuch_91 C hr  _ _ hf)
/-- TickPools$Script.readMuch(LTickPools$Step;)Z -/
def f_X6_readMuch (p1 : Nat) (S : Mem) : Option (Int32 × Mem) := (if kd p1 = (7, 10) then ((f_X9_peek (sI S p1 8 0)).bind fun q9 => ((f_X9_isDigit q9.1 q9.2).bind fun q12 => (if q12.1 = 0 then ((f_X9_readWord q12.2).bind fun q31 => (if q31.1 = 0 then (some (0, q31.2)) else ((f_X9_wordIs 311 q31.2).bind fun q45 => (if q45.1 = 0 then ((f_X9_wordIs 312 (sI q45.2 p1 8 2)).bind fun q69 => (if q69.1 = 0 then ((f_X9_blameWord 0 q69.2).bind fun q80 => (if q80.1 = 0 then (f_X6_readMuch_91  0 q80.2) else (f_X6_readMuch_86  q80.2))) else (f_X6_readMuch_86  q69.2))) else (some (1, (sI q45.2 p1 8 1))))))) else ((f_X6_readAmount p1 0 9999999 q12.2).bind fun q23 => (if isB q23.1 = true then (some (q23.1, q23.2)) else none))))) else none)
set_option maxRecDepth 20000 in
theorem c_X6_readMuch {l : Launch} {Γ : GG} (hI : Inj Γ) {p1 : Nat} {S : Mem} {q : Int32 × Mem} (hf : f_X6_readMuch p1 S = some q) : MM l Γ yX6_readMuch cX6_readMuch 2 (some .boolean) 5 108 [aR 6, aR p1] S (some (aI q.1)) q.2 := by
  refine met_of hI "TickPools$Script" rfl (by decide +kernel) (Nat.le_of_ble_eq_true rfl) (fun X hX C hr => ?_)
  unfold f_X6_readMuch at hf
  show ZZ X Γ 2 _ S 0 [(0, aR 6), (1, aR p1)] []
  refine z_aload_n (j := 1) C d_X6_readMuch_0 rfl ?_
  refine z_iconst (v := 0) C d_X6_readMuch_1 (by decide) ?_
  obtain ⟨hg2_0, hf⟩ := gd hf
  refine zp_X8_much C hg2_0 tw_333 d_X6_readMuch_2 ?_
  refine z_aload_n (j := 0) C d_X6_readMuch_5 rfl ?_
  refine zg_X6_tape C rfl tw_359 d_X6_readMuch_6 ?_
  obtain ⟨q9, hF, hf⟩ := bd hf
  refine z_callV1 (rest := []) C [] rfl (by decide) rfl rfl k_X9_peek tw_733 ⟨by decide, by decide⟩ (Nat.le_of_ble_eq_true rfl) d_X6_readMuch_9 (c_X9_peek C.inj hF) rfl ?_
  obtain ⟨q12, hF, hf⟩ := bd hf
  refine z_callS1 (rest := []) C [aI q9.1] k_X9_isDigit tw_734 ⟨by decide, by decide⟩ (Nat.le_of_ble_eq_true rfl) d_X6_readMuch_12 (c_X9_isDigit C.inj hF) rfl ?_
  refine z_if_eq (tgt := 27) C d_X6_readMuch_15 (by decide) hf (fun c15 hf => ?_) (fun c15 hf => ?_)
  · refine z_aload_n (j := 0) C d_X6_readMuch_27 rfl ?_
    refine zg_X6_tape C rfl tw_359 d_X6_readMuch_28 ?_
    obtain ⟨q31, hF, hf⟩ := bd hf
    refine z_callV1 (rest := []) C [] rfl (by decide) rfl rfl k_X9_readWord tw_696 ⟨by decide, by decide⟩ (Nat.le_of_ble_eq_true rfl) d_X6_readMuch_31 (c_X9_readWord C.inj hF) rfl ?_
    refine z_if_ne (tgt := 39) C d_X6_readMuch_34 (by decide) hf (fun c34 hf => ?_) (fun c34 hf => ?_)
    · refine z_aload_n (j := 0) C d_X6_readMuch_39 rfl ?_
      refine zg_X6_tape C rfl tw_359 d_X6_readMuch_40 ?_
      refine z_ldcS (i := 10) C rfl d_X6_readMuch_43 ?_
      obtain ⟨q45, hF, hf⟩ := bd hf
      refine z_callV1 (rest := []) C [aR 311] rfl (by decide) rfl rfl k_X9_wordIs tw_702 ⟨by decide, by decide⟩ (Nat.le_of_ble_eq_true rfl) d_X6_readMuch_45 (c_X9_wordIs C.inj hF) rfl ?_
      refine z_if_eq (tgt := 58) C d_X6_readMuch_48 (by decide) hf (fun c48 hf => ?_) (fun c48 hf => ?_)
      · refine z_aload_n (j := 1) C d_X6_readMuch_58 rfl ?_
        refine z_iconst (v := 2) C d_X6_readMuch_59 (by decide) ?_
        refine zp_X8_much C hg2_0 tw_333 d_X6_readMuch_60 ?_
        refine z_aload_n (j := 0) C d_X6_readMuch_63 rfl ?_
        refine zg_X6_tape C rfl tw_359 d_X6_readMuch_64 ?_
        refine z_ldcS (i := 11) C rfl d_X6_readMuch_67 ?_
        obtain ⟨q69, hF, hf⟩ := bd hf
        refine z_callV1 (rest := []) C [aR 312] rfl (by decide) rfl rfl k_X9_wordIs tw_702 ⟨by decide, by decide⟩ (Nat.le_of_ble_eq_true rfl) d_X6_readMuch_69 (c_X9_wordIs C.inj hF) rfl ?_
        refine z_if_ne (tgt := 86) C d_X6_readMuch_72 (by decide) hf (fun c72 hf => ?_) (fun c72 hf => ?_)
        · exact z_sub [] rfl (t_X6_readMuch_86 C hr  _ hf)
        · refine z_aload_n (j := 0) C d_X6_readMuch_75 rfl ?_
          refine zg_X6_tape C rfl tw_359 d_X6_readMuch_76 ?_
          refine z_iconst (v := 0) C d_X6_readMuch_79 (by decide) ?_
          obtain ⟨q80, hF, hf⟩ := bd hf
          refine z_callV1 (rest := []) C [aI 0] rfl (by decide) rfl rfl k_X9_blameWord tw_709 ⟨by decide, by decide⟩ (Nat.le_of_ble_eq_true rfl) d_X6_readMuch_80 (c_X9_blameWord C.inj hF) rfl ?_
          refine z_if_eq (tgt := 90) C d_X6_readMuch_83 (by decide) hf (fun c83 hf => ?_) (fun c83 hf => ?_)
          · refine z_iconst (v := 0) C d_X6_readMuch_90 (by decide) ?_
            exact z_sub [] rfl (t_X6_readMuch_91 C hr  _ _ hf)
          · exact z_sub [] rfl (t_X6_readMuch_86 C hr  _ hf)
      · refine z_aload_n (j := 1) C d_X6_readMuch_51 rfl ?_
        refine z_iconst (v := 1) C d_X6_readMuch_52 (by decide) ?_
        refine zp_X8_much C hg2_0 tw_333 d_X6_readMuch_53 ?_
        refine z_iconst (v := 1) C d_X6_readMuch_56 (by decide) ?_
        exact r_i C hr (by decide) d_X6_readMuch_57 hf
    · refine z_iconst (v := 0) C d_X6_readMuch_37 (by decide) ?_
      exact r_i C hr (by decide) d_X6_readMuch_38 hf
  · refine z_aload_n (j := 0) C d_X6_readMuch_18 rfl ?_
    refine z_aload_n (j := 1) C d_X6_readMuch_19 rfl ?_
    refine z_iconst (v := 0) C d_X6_readMuch_20 (by decide) ?_
    refine z_ldc (v := 9999999) C tw_724 d_X6_readMuch_21 ?_
    obtain ⟨q23, hF, hf⟩ := bd hf
    refine z_callV1 (rest := []) C [aR p1, aI 0, aI 9999999] rfl (by decide) rfl rfl k_X6_readAmount tw_716 ⟨by decide, by decide⟩ (Nat.le_of_ble_eq_true rfl) d_X6_readMuch_23 (c_X6_readAmount C.inj hF) rfl ?_
    obtain ⟨hb26_1, hf⟩ := gd hf
    exact r_i C hr (isB_nar hb26_1).1 d_X6_readMuch_26 hf
theorem d_X6_readStep_0 : decode cX6_readStep 0 = .ok (.aload_n 0, 1) := by decide +kernel
theorem d_X6_readStep_1 : decode cX6_readStep 1 = .ok (.getfield 9, 3) := by decide +kernel
theorem d_X6_readStep_4 : decode cX6_readStep 4 = .ok (.invokevirtual 69, 3) := by decide +kernel
theorem d_X6_readStep_7 : decode cX6_readStep 7 = .ok (.ifCond .ne 5, 3) := by decide +kernel
theorem d_X6_readStep_10 : decode cX6_readStep 10 = .ok (.iconst 0, 1) := by decide +kernel
theorem d_X6_readStep_11 : decode cX6_readStep 11 = .ok (.ireturn, 1) := by decide +kernel
theorem d_X6_readStep_12 : decode cX6_readStep 12 = .ok (.aload_n 0, 1) := by decide +kernel
theorem d_X6_readStep_13 : decode cX6_readStep 13 = .ok (.invokevirtual 72, 3) := by decide +kernel
theorem d_X6_readStep_16 : decode cX6_readStep 16 = .ok (.istore_n 1, 1) := by decide +kernel
theorem d_X6_readStep_17 : decode cX6_readStep 17 = .ok (.iload_n 1, 1) := by decide +kernel
theorem d_X6_readStep_18 : decode cX6_readStep 18 = .ok (.iconst (-1), 1) := by decide +kernel
theorem d_X6_readStep_19 : decode cX6_readStep 19 = .ok (.if_icmp .ne 12, 3) := by decide +kernel
theorem d_X6_readStep_22 : decode cX6_readStep 22 = .ok (.aload_n 0, 1) := by decide +kernel
theorem d_X6_readStep_23 : decode cX6_readStep 23 = .ok (.getfield 9, 3) := by decide +kernel
theorem d_X6_readStep_26 : decode cX6_readStep 26 = .ok (.iconst 0, 1) := by decide +kernel
theorem d_X6_readStep_27 : decode cX6_readStep 27 = .ok (.invokevirtual 75, 3) := by decide +kernel
theorem d_X6_readStep_30 : decode cX6_readStep 30 = .ok (.ireturn, 1) := by decide +kernel
theorem d_X6_readStep_31 : decode cX6_readStep 31 = .ok (.aload_n 0, 1) := by decide +kernel
theorem d_X6_readStep_32 : decode cX6_readStep 32 = .ok (.getfield 26, 3) := by decide +kernel
theorem d_X6_readStep_35 : decode cX6_readStep 35 = .ok (.ifCond .lt 15, 3) := by decide +kernel
theorem d_X6_readStep_38 : decode cX6_readStep 38 = .ok (.aload_n 0, 1) := by decide +kernel
theorem d_X6_readStep_39 : decode cX6_readStep 39 = .ok (.getfield 26, 3) := by decide +kernel
theorem d_X6_readStep_42 : decode cX6_readStep 42 = .ok (.aload_n 0, 1) := by decide +kernel
theorem d_X6_readStep_43 : decode cX6_readStep 43 = .ok (.getfield 17, 3) := by decide +kernel
theorem d_X6_readStep_46 : decode cX6_readStep 46 = .ok (.arraylength, 1) := by decide +kernel
theorem d_X6_readStep_47 : decode cX6_readStep 47 = .ok (.if_icmp .lt 12, 3) := by decide +kernel
theorem d_X6_readStep_50 : decode cX6_readStep 50 = .ok (.aload_n 0, 1) := by decide +kernel
theorem d_X6_readStep_51 : decode cX6_readStep 51 = .ok (.getfield 9, 3) := by decide +kernel
theorem d_X6_readStep_54 : decode cX6_readStep 54 = .ok (.iconst 2, 1) := by decide +kernel
theorem d_X6_readStep_55 : decode cX6_readStep 55 = .ok (.invokevirtual 75, 3) := by decide +kernel
theorem d_X6_readStep_58 : decode cX6_readStep 58 = .ok (.ireturn, 1) := by decide +kernel
theorem d_X6_readStep_59 : decode cX6_readStep 59 = .ok (.aload_n 0, 1) := by decide +kernel
theorem d_X6_readStep_60 : decode cX6_readStep 60 = .ok (.getfield 17, 3) := by decide +kernel
theorem d_X6_readStep_63 : decode cX6_readStep 63 = .ok (.aload_n 0, 1) := by decide +kernel
theorem d_X6_readStep_64 : decode cX6_readStep 64 = .ok (.getfield 26, 3) := by decide +kernel
theorem d_X6_readStep_67 : decode cX6_readStep 67 = .ok (.aaload, 1) := by decide +kernel
theorem d_X6_readStep_68 : decode cX6_readStep 68 = .ok (.astore_n 2, 1) := by decide +kernel
theorem d_X6_readStep_69 : decode cX6_readStep 69 = .ok (.aload_n 0, 1) := by decide +kernel
theorem d_X6_readStep_70 : decode cX6_readStep 70 = .ok (.dup, 1) := by decide +kernel
theorem d_X6_readStep_71 : decode cX6_readStep 71 = .ok (.getfield 26, 3) := by decide +kernel
theorem d_X6_readStep_74 : decode cX6_readStep 74 = .ok (.iconst 1, 1) := by decide +kernel
theorem d_X6_readStep_75 : decode cX6_readStep 75 = .ok (.iadd, 1) := by decide +kernel
theorem d_X6_readStep_76 : decode cX6_readStep 76 = .ok (.putfield 26, 3) := by decide +kernel
theorem d_X6_readStep_79 : decode cX6_readStep 79 = .ok (.aload_n 2, 1) := by decide +kernel
theorem d_X6_readStep_80 : decode cX6_readStep 80 = .ok (.iload_n 1, 1) := by decide +kernel
theorem d_X6_readStep_81 : decode cX6_readStep 81 = .ok (.putfield 78, 3) := by decide +kernel
theorem d_X6_readStep_84 : decode cX6_readStep 84 = .ok (.aload_n 2, 1) := by decide +kernel
theorem d_X6_readStep_85 : decode cX6_readStep 85 = .ok (.aload_n 0, 1) := by decide +kernel
theorem d_X6_readStep_86 : decode cX6_readStep 86 = .ok (.getfield 9, 3) := by decide +kernel
theorem d_X6_readStep_89 : decode cX6_readStep 89 = .ok (.getfield 81, 3) := by decide +kernel
theorem d_X6_readStep_92 : decode cX6_readStep 92 = .ok (.putfield 84, 3) := by decide +kernel
theorem d_X6_readStep_95 : decode cX6_readStep 95 = .ok (.aload_n 2, 1) := by decide +kernel
theorem d_X6_readStep_96 : decode cX6_readStep 96 = .ok (.aload_n 0, 1) := by decide +kernel
theorem d_X6_readStep_97 : decode cX6_readStep 97 = .ok (.getfield 26, 3) := by decide +kernel
theorem d_X6_readStep_100 : decode cX6_readStep 100 = .ok (.putfield 66, 3) := by decide +kernel
theorem d_X6_readStep_103 : decode cX6_readStep 103 = .ok (.iload_n 1, 1) := by decide +kernel
theorem d_X6_readStep_104 : decode cX6_readStep 104 = .ok (.tableswitch 82 2 6 #[36, 61, 67, 82, 73], 36) := by decide +kernel
theorem d_X6_readStep_140 : decode cX6_readStep 140 = .ok (.aload_n 0, 1) := by decide +kernel
theorem d_X6_readStep_141 : decode cX6_readStep 141 = .ok (.aload_n 2, 1) := by decide +kernel
theorem d_X6_readStep_142 : decode cX6_readStep 142 = .ok (.invokevirtual 87, 3) := by decide +kernel
theorem d_X6_readStep_145 : decode cX6_readStep 145 = .ok (.ifCond .eq 18, 3) := by decide +kernel
theorem d_X6_readStep_148 : decode cX6_readStep 148 = .ok (.aload_n 0, 1) := by decide +kernel
theorem d_X6_readStep_149 : decode cX6_readStep 149 = .ok (.aload_n 2, 1) := by decide +kernel
theorem d_X6_readStep_150 : decode cX6_readStep 150 = .ok (.iconst 1, 1) := by decide +kernel
theorem d_X6_readStep_151 : decode cX6_readStep 151 = .ok (.ldc 91, 2) := by decide +kernel
theorem d_X6_readStep_153 : decode cX6_readStep 153 = .ok (.invokevirtual 92, 3) := by decide +kernel
theorem d_X6_readStep_156 : decode cX6_readStep 156 = .ok (.ifCond .eq 7, 3) := by decide +kernel
theorem d_X6_readStep_159 : decode cX6_readStep 159 = .ok (.iconst 1, 1) := by decide +kernel
theorem d_X6_readStep_160 : decode cX6_readStep 160 = .ok (.goto 4, 3) := by decide +kernel
theorem d_X6_readStep_163 : decode cX6_readStep 163 = .ok (.iconst 0, 1) := by decide +kernel
theorem d_X6_readStep_164 : decode cX6_readStep 164 = .ok (.ireturn, 1) := by decide +kernel
theorem d_X6_readStep_165 : decode cX6_readStep 165 = .ok (.aload_n 0, 1) := by decide +kernel
theorem d_X6_readStep_166 : decode cX6_readStep 166 = .ok (.aload_n 2, 1) := by decide +kernel
theorem d_X6_readStep_167 : decode cX6_readStep 167 = .ok (.invokevirtual 87, 3) := by decide +kernel
theorem d_X6_readStep_170 : decode cX6_readStep 170 = .ok (.ireturn, 1) := by decide +kernel
theorem d_X6_readStep_171 : decode cX6_readStep 171 = .ok (.aload_n 0, 1) := by decide +kernel
theorem d_X6_readStep_172 : decode cX6_readStep 172 = .ok (.aload_n 2, 1) := by decide +kernel
theorem d_X6_readStep_173 : decode cX6_readStep 173 = .ok (.invokevirtual 96, 3) := by decide +kernel
theorem d_X6_readStep_176 : decode cX6_readStep 176 = .ok (.ireturn, 1) := by decide +kernel
theorem d_X6_readStep_177 : decode cX6_readStep 177 = .ok (.aload_n 0, 1) := by decide +kernel
theorem d_X6_readStep_178 : decode cX6_readStep 178 = .ok (.aload_n 2, 1) := by decide +kernel
theorem d_X6_readStep_179 : decode cX6_readStep 179 = .ok (.iconst 0, 1) := by decide +kernel
theorem d_X6_readStep_180 : decode cX6_readStep 180 = .ok (.bipush 20, 2) := by decide +kernel
theorem d_X6_readStep_182 : decode cX6_readStep 182 = .ok (.invokevirtual 92, 3) := by decide +kernel
theorem d_X6_readStep_185 : decode cX6_readStep 185 = .ok (.ireturn, 1) := by decide +kernel
theorem d_X6_readStep_186 : decode cX6_readStep 186 = .ok (.aload_n 0, 1) := by decide +kernel
theorem d_X6_readStep_187 : decode cX6_readStep 187 = .ok (.aload_n 2, 1) := by decide +kernel
theorem d_X6_readStep_188 : decode cX6_readStep 188 = .ok (.invokevirtual 99, 3) := by decide +kernel
theorem d_X6_readStep_191 : decode cX6_readStep 191 = .ok (.ifCond .eq 15, 3) := by decide +kernel
theorem d_X6_readStep_194 : decode cX6_readStep 194 = .ok (.aload_n 0, 1) := by decide +kernel
theorem d_X6_readStep_195 : decode cX6_readStep 195 = .ok (.aload_n 2, 1) := by decide +kernel
theorem d_X6_readStep_196 : decode cX6_readStep 196 = .ok (.invokevirtual 102, 3) := by decide +kernel
theorem d_X6_readStep_199 : decode cX6_readStep 199 = .ok (.ifCond .eq 7, 3) := by decide +kernel
theorem d_X6_readStep_202 : decode cX6_readStep 202 = .ok (.iconst 1, 1) := by decide +kernel
theorem d_X6_readStep_203 : decode cX6_readStep 203 = .ok (.goto 4, 3) := by decide +kernel
theorem d_X6_readStep_206 : decode cX6_readStep 206 = .ok (.iconst 0, 1) := by decide +kernel
theorem d_X6_readStep_207 : decode cX6_readStep 207 = .ok (.ireturn, 1) := by decide +kernel
def f_X6_readStep_50 (S : Mem) : Option (Int32 × Mem) := ((f_X9_blameWord 2 S).bind fun q55 => (if isB q55.1 = true then (some (q55.1, q55.2)) else none))
set_option maxRecDepth 20000 in
theorem t_X6_readStep_50 {X : MC} {Γ : GG} (C : CX X Γ cX6_readStep 3 "TickPools$Script" 6 129) (hr : X.2.2.2.2.2.2.2.2.1.sig.returnType = some .boolean) {q : Int32 × Mem} (S : Mem) (hf : f_X6_readStep_50 S = some q) : ZZ X Γ 3 (QQ X Γ (some (aI q.1)) q.2) S 50 [(0, aR 6)] [] := by
  unfold f_X6_readStep_50 at hf
  refine z_aload_n (j := 0) C d_X6_readStep_50 rfl ?_
  refine zg_X6_tape C rfl tw_359 d_X6_readStep_51 ?_
  refine z_iconst (v := 2) C d_X6_readStep_54 (by decide) ?_
  obtain ⟨q55, hF, hf⟩ := bd hf
  refine z_callV1 (rest := []) C [aI 2] rfl (by decide) rfl rfl k_X9_blameWord tw_709 ⟨by decide, by decide⟩ (Nat.le_of_ble_eq_true rfl) d_X6_readStep_55 (c_X9_blameWord C.inj hF) rfl ?_
  obtain ⟨hb58_1, hf⟩ := gd hf
  exact r_i C hr (isB_nar hb58_1).1 d_X6_readStep_58 hf
def f_X6_readStep_164 (s0 : Int32) (S : Mem) : Option (Int32 × Mem) := (if isB s0 = true then (some (s0, S)) else none)
set_option maxRecDepth 20000 in
theorem t_X6_readStep_164 {X : MC} {Γ : GG} (C : CX X Γ cX6_readStep 3 "TickPools$Script" 6 129) (hr : X.2.2.2.2.2.2.2.2.1.sig.returnType = some .boolean) {q : Int32 × Mem} (s0 : Int32) (S : Mem) (hf : f_X6_readStep_164 s0 S = some q) : ZZ X Γ 3 (QQ X Γ (some (aI q.1)) q.2) S 164 [] [aI s0] := by
  unfold f_X6_readStep_164 at hf
  obtain ⟨hb164_0, hf⟩ := gd hf
  exact r_i C hr (isB_nar hb164_0).1 d_X6_readStep_164 hf
def f_X6_readStep_163 (S : Mem) : Option (Int32 × Mem) := (f_X6_readStep_164  0 S)
set_option maxRecDepth 20000 in
theorem t_X6_readStep_163 {X : MC} {Γ : GG} (C : CX X Γ cX6_readStep 3 "TickPools$Script" 6 129) (hr : X.2.2.2.2.2.2.2.2.1.sig.returnType = some .boolean) {q : Int32 × Mem} (S : Mem) (hf : f_X6_readStep_163 S = some q) : ZZ X Γ 3 (QQ X Γ (some (aI q.1)) q.2) S 163 [] [] := by
  unfold f_X6_readStep_163 at hf
  refine z_iconst (v := 0) C d_X6_readStep_163 (by decide) ?_
  exact z_sub [] rfl (t_X6_readStep_164 C hr  _ _ hf)
def f_X6_readStep_207 (s0 : Int32) (S : Mem) : Option (Int32 × Mem) := (if isB s0 = true then (some (s0, S)) else none)
set_option maxRecDepth 20000 in
theorem t_X6_readStep_207 {X : MC} {Γ : GG} (C : CX X Γ cX6_readStep 3 "TickPools$Script" 6 129) (hr : X.2.2.2.2.2.2.2.2.1.sig.returnType = some .boolean) {q : Int32 × Mem} (s0 : Int32) (S : Mem) (hf : f_X6_readStep_207 s0 S = some q) : ZZ X Γ 3 (QQ X Γ (some (aI q.1)) q.2) S 207 [] [aI s0] := by
  unfold f_X6_readStep_207 at hf
  obtain ⟨hb207_0, hf⟩ := gd hf
  exact r_i C hr (isB_nar hb207_0).1 d_X6_readStep_207 hf
def f_X6_readStep_206 (S : Mem) : Option (Int32 × Mem) := (f_X6_readStep_207  0 S)
set_option maxRecDepth 20000 in
theorem t_X6_readStep_206 {X : MC} {Γ : GG} (C : CX X Γ cX6_readStep 3 "TickPools$Script" 6 129) (hr : X.2.2.2.2.2.2.2.2.1.sig.returnType = some .boolean) {q : Int32 × Mem} (S : Mem) (hf : f_X6_readStep_206 S = some q) : ZZ X Γ 3 (QQ X Γ (some (aI q.1)) q.2) S 206 [] [] := by
  unfold f_X6_readStep_206 at hf
  refine z_iconst (v := 0) C d_X6_readStep_206 (by decide) ?_
  exact z_sub [] rfl (t_X6_readStep_207 C hr  _ _ hf)
def f_X6_readStep_186 (v2 : Nat) (S : Mem) : Option (Int32 × Mem) := ((f_X6_readPoolAndSide v2 S).bind fun q188 => (if q188.1 = 0 then (f_X6_readStep_206  q188.2) else ((f_X6_readMuch v2 q188.2).bind fun q196 => (if q196.1 = 0 then (f_X6_readStep_206  q196.2) else (f_X6_readStep_207  1 q196.2)))))
set_option maxRecDepth 20000 in
theorem t_X6_readStep_186 {X : MC} {Γ : GG} (C : CX X Γ cX6_readStep 3 "TickPools$Script" 6 129) (hr : X.2.2.2.2.2.2.2.2.1.sig.returnType = some .boolean) {q : Int32 × Mem} (v2 : Nat) (S : Mem) (hf : f_X6_readStep_186 v2 S = some q) : ZZ X Γ 3 (QQ X Γ (some (aI q.1)) q.2) S 186 [(0, aR 6), (2, aR v2)] [] := by
  unfold f_X6_readStep_186 at hf
  refine z_aload_n (j := 0) C d_X6_readStep_186 rfl ?_
  refine z_aload_n (j := 1) C d_X6_readStep_187 rfl ?_
  obtain ⟨q188, hF, hf⟩ := bd hf
  refine z_callV1 (rest := []) C [aR v2] rfl (by decide) rfl rfl k_X6_readPoolAndSide tw_725 ⟨by decide, by decide⟩ (Nat.le_of_ble_eq_true rfl) d_X6_readStep_188 (c_X6_readPoolAndSide C.inj hF) rfl ?_
  refine z_if_eq (tgt := 206) C d_X6_readStep_191 (by decide) hf (fun c191 hf => ?_) (fun c191 hf => ?_)
  · exact z_sub [] rfl (t_X6_readStep_206 C hr  _ hf)
  · refine z_aload_n (j := 0) C d_X6_readStep_194 rfl ?_
    refine z_aload_n (j := 1) C d_X6_readStep_195 rfl ?_
    obtain ⟨q196, hF, hf⟩ := bd hf
    refine z_callV1 (rest := []) C [aR v2] rfl (by decide) rfl rfl k_X6_readMuch tw_729 ⟨by decide, by decide⟩ (Nat.le_of_ble_eq_true rfl) d_X6_readStep_196 (c_X6_readMuch C.inj hF) rfl ?_
    refine z_if_eq (tgt := 206) C d_X6_readStep_199 (by decide) hf (fun c199 hf => ?_) (fun c199 hf => ?_)
    · exact z_sub [] rfl (t_X6_readStep_206 C hr  _ hf)
    · refine z_iconst (v := 1) C d_X6_readStep_202 (by decide) ?_
      refine z_goto (tgt := 207) C d_X6_readStep_203 (by decide) ?_
      exact z_sub [] rfl (t_X6_readStep_207 C hr  _ _ hf)
def f_X6_readStep_95 (v1 : Int32) (v2 : Nat) (S : Mem) : Option (Int32 × Mem) := (if kd v2 = (7, 10) then (if v1 = 2 then ((f_X6_readRange v2 (sI S v2 9 (gI S 6 0))).bind fun q142 => (if q142.1 = 0 then (f_X6_readStep_163  q142.2) else ((f_X6_readAmount v2 1 99999 q142.2).bind fun q153 => (if q153.1 = 0 then (f_X6_readStep_163  q153.2) else (f_X6_readStep_164  1 q153.2))))) else (if v1 = 3 then ((f_X6_readRange v2 (sI S v2 9 (gI S 6 0))).bind fun q167 => (if isB q167.1 = true then (some (q167.1, q167.2)) else none)) else (if v1 = 4 then ((f_X6_readLeast v2 (sI S v2 9 (gI S 6 0))).bind fun q173 => (if isB q173.1 = true then (some (q173.1, q173.2)) else none)) else (if v1 = 5 then (f_X6_readStep_186  v2 (sI S v2 9 (gI S 6 0))) else (if v1 = 6 then ((f_X6_readAmount v2 0 20 (sI S v2 9 (gI S 6 0))).bind fun q182 => (if isB q182.1 = true then (some (q182.1, q182.2)) else none)) else (f_X6_readStep_186  v2 (sI S v2 9 (gI S 6 0)))))))) else none)
set_option maxRecDepth 20000 in
theorem t_X6_readStep_95 {X : MC} {Γ : GG} (C : CX X Γ cX6_readStep 3 "TickPools$Script" 6 129) (hr : X.2.2.2.2.2.2.2.2.1.sig.returnType = some .boolean) {q : Int32 × Mem} (v1 : Int32) (v2 : Nat) (S : Mem) (hf : f_X6_readStep_95 v1 v2 S = some q) : ZZ X Γ 3 (QQ X Γ (some (aI q.1)) q.2) S 95 [(0, aR 6), (1, aI v1), (2, aR v2)] [] := by
  unfold f_X6_readStep_95 at hf
  refine z_aload_n (j := 2) C d_X6_readStep_95 rfl ?_
  refine z_aload_n (j := 0) C d_X6_readStep_96 rfl ?_
  refine zg_X6_size C rfl tw_357 d_X6_readStep_97 ?_
  obtain ⟨hg100_0, hf⟩ := gd hf
  refine zp_X8_after C hg100_0 tw_335 d_X6_readStep_100 ?_
  refine z_iload_n (j := 1) C d_X6_readStep_103 rfl ?_
  by_cases c104_2 : v1 = 2
  · rw [if_pos c104_2] at hf
    refine z_tin (tgt := 140) C d_X6_readStep_104 (by rw [c104_2]; decide) (by rw [c104_2]; decide) (by rw [c104_2]; rfl) (by decide) ?_
    refine z_aload_n (j := 0) C d_X6_readStep_140 rfl ?_
    refine z_aload_n (j := 2) C d_X6_readStep_141 rfl ?_
    obtain ⟨q142, hF, hf⟩ := bd hf
    refine z_callV1 (rest := []) C [aR v2] rfl (by decide) rfl rfl k_X6_readRange tw_710 ⟨by decide, by decide⟩ (Nat.le_of_ble_eq_true rfl) d_X6_readStep_142 (c_X6_readRange C.inj hF) rfl ?_
    refine z_if_eq (tgt := 163) C d_X6_readStep_145 (by decide) hf (fun c145 hf => ?_) (fun c145 hf => ?_)
    · exact z_sub [] rfl (t_X6_readStep_163 C hr  _ hf)
    · refine z_aload_n (j := 0) C d_X6_readStep_148 rfl ?_
      refine z_aload_n (j := 2) C d_X6_readStep_149 rfl ?_
      refine z_iconst (v := 1) C d_X6_readStep_150 (by decide) ?_
      refine z_ldc (v := 99999) C tw_715 d_X6_readStep_151 ?_
      obtain ⟨q153, hF, hf⟩ := bd hf
      refine z_callV1 (rest := []) C [aR v2, aI 1, aI 99999] rfl (by decide) rfl rfl k_X6_readAmount tw_716 ⟨by decide, by decide⟩ (Nat.le_of_ble_eq_true rfl) d_X6_readStep_153 (c_X6_readAmount C.inj hF) rfl ?_
      refine z_if_eq (tgt := 163) C d_X6_readStep_156 (by decide) hf (fun c156 hf => ?_) (fun c156 hf => ?_)
      · exact z_sub [] rfl (t_X6_readStep_163 C hr  _ hf)
      · refine z_iconst (v := 1) C d_X6_readStep_159 (by decide) ?_
        refine z_goto (tgt := 164) C d_X6_readStep_160 (by decide) ?_
        exact z_sub [] rfl (t_X6_readStep_164 C hr  _ _ hf)
  rw [if_neg c104_2] at hf
  have d104_2 := tn (n := 2) c104_2 (by decide)
  by_cases c104_3 : v1 = 3
  · rw [if_pos c104_3] at hf
    refine z_tin (tgt := 165) C d_X6_readStep_104 (by rw [c104_3]; decide) (by rw [c104_3]; decide) (by rw [c104_3]; rfl) (by decide) ?_
    refine z_aload_n (j := 0) C d_X6_readStep_165 rfl ?_
    refine z_aload_n (j := 2) C d_X6_readStep_166 rfl ?_
    obtain ⟨q167, hF, hf⟩ := bd hf
    refine z_callV1 (rest := []) C [aR v2] rfl (by decide) rfl rfl k_X6_readRange tw_710 ⟨by decide, by decide⟩ (Nat.le_of_ble_eq_true rfl) d_X6_readStep_167 (c_X6_readRange C.inj hF) rfl ?_
    obtain ⟨hb170_1, hf⟩ := gd hf
    exact r_i C hr (isB_nar hb170_1).1 d_X6_readStep_170 hf
  rw [if_neg c104_3] at hf
  have d104_3 := tn (n := 3) c104_3 (by decide)
  by_cases c104_4 : v1 = 4
  · rw [if_pos c104_4] at hf
    refine z_tin (tgt := 171) C d_X6_readStep_104 (by rw [c104_4]; decide) (by rw [c104_4]; decide) (by rw [c104_4]; rfl) (by decide) ?_
    refine z_aload_n (j := 0) C d_X6_readStep_171 rfl ?_
    refine z_aload_n (j := 2) C d_X6_readStep_172 rfl ?_
    obtain ⟨q173, hF, hf⟩ := bd hf
    refine z_callV1 (rest := []) C [aR v2] rfl (by decide) rfl rfl k_X6_readLeast tw_720 ⟨by decide, by decide⟩ (Nat.le_of_ble_eq_true rfl) d_X6_readStep_173 (c_X6_readLeast C.inj hF) rfl ?_
    obtain ⟨hb176_1, hf⟩ := gd hf
    exact r_i C hr (isB_nar hb176_1).1 d_X6_readStep_176 hf
  rw [if_neg c104_4] at hf
  have d104_4 := tn (n := 4) c104_4 (by decide)
  by_cases c104_5 : v1 = 5
  · rw [if_pos c104_5] at hf
    refine z_tin (tgt := 186) C d_X6_readStep_104 (by rw [c104_5]; decide) (by rw [c104_5]; decide) (by rw [c104_5]; rfl) (by decide) ?_
    exact z_sub [0, 2] rfl (t_X6_readStep_186 C hr  _ _ hf)
  rw [if_neg c104_5] at hf
  have d104_5 := tn (n := 5) c104_5 (by decide)
  by_cases c104_6 : v1 = 6
  · rw [if_pos c104_6] at hf
    refine z_tin (tgt := 177) C d_X6_readStep_104 (by rw [c104_6]; decide) (by rw [c104_6]; decide) (by rw [c104_6]; rfl) (by decide) ?_
    refine z_aload_n (j := 0) C d_X6_readStep_177 rfl ?_
    refine z_aload_n (j := 2) C d_X6_readStep_178 rfl ?_
    refine z_iconst (v := 0) C d_X6_readStep_179 (by decide) ?_
    refine z_bipush (v := 20) C d_X6_readStep_180 (by decide) ?_
    obtain ⟨q182, hF, hf⟩ := bd hf
    refine z_callV1 (rest := []) C [aR v2, aI 0, aI 20] rfl (by decide) rfl rfl k_X6_readAmount tw_716 ⟨by decide, by decide⟩ (Nat.le_of_ble_eq_true rfl) d_X6_readStep_182 (c_X6_readAmount C.inj hF) rfl ?_
    obtain ⟨hb185_1, hf⟩ := gd hf
    exact r_i C hr (isB_nar hb185_1).1 d_X6_readStep_185 hf
  rw [if_neg c104_6] at hf
  have d104_6 := tn (n := 6) c104_6 (by decide)
  refine z_tout (tgt := 186) C d_X6_readStep_104 (by omega) (by decide) ?_
  exact z_sub [0, 2] rfl (t_X6_readStep_186 C hr  _ _ hf)
def f_X6_readStep_69 (v1 : Int32) (v2 : Nat) (S : Mem) : Option (Int32 × Mem) := (if kd v2 = (7, 10) then (f_X6_readStep_95  v1 v2 (sI (sI (sI S 6 0 ((gI S 6 0) + 1)) v2 0 v1) v2 1 (gI (sI (sI S 6 0 ((gI S 6 0) + 1)) v2 0 v1) 2 3))) else none)
set_option maxRecDepth 20000 in
theorem t_X6_readStep_69 {X : MC} {Γ : GG} (C : CX X Γ cX6_readStep 3 "TickPools$Script" 6 129) (hr : X.2.2.2.2.2.2.2.2.1.sig.returnType = some .boolean) {q : Int32 × Mem} (v1 : Int32) (v2 : Nat) (S : Mem) (hf : f_X6_readStep_69 v1 v2 S = some q) : ZZ X Γ 3 (QQ X Γ (some (aI q.1)) q.2) S 69 [(0, aR 6), (1, aI v1), (2, aR v2)] [] := by
  unfold f_X6_readStep_69 at hf
  refine z_aload_n (j := 0) C d_X6_readStep_69 rfl ?_
  refine z_dup C d_X6_readStep_70 rfl ?_
  refine zg_X6_size C rfl tw_357 d_X6_readStep_71 ?_
  refine z_iconst (v := 1) C d_X6_readStep_74 (by decide) ?_
  refine z_iadd C d_X6_readStep_75 ?_
  refine zp_X6_size C rfl tw_357 d_X6_readStep_76 ?_
  refine z_aload_n (j := 2) C d_X6_readStep_79 rfl ?_
  refine z_iload_n (j := 1) C d_X6_readStep_80 rfl ?_
  obtain ⟨hg81_0, hf⟩ := gd hf
  refine zp_X8_kind C hg81_0 tw_317 d_X6_readStep_81 ?_
  refine z_aload_n (j := 2) C d_X6_readStep_84 rfl ?_
  refine z_aload_n (j := 0) C d_X6_readStep_85 rfl ?_
  refine zg_X6_tape C rfl tw_359 d_X6_readStep_86 ?_
  refine zg_X9_wordStart C rfl tw_40 d_X6_readStep_89 ?_
  refine zp_X8_place C hg81_0 tw_319 d_X6_readStep_92 ?_
  exact z_sub [0, 1, 2] rfl (t_X6_readStep_95 C hr  _ _ _ hf)
/-- TickPools$Script.readStep()Z -/
def f_X6_readStep (S : Mem) : Option (Int32 × Mem) := ((f_X9_readWord S).bind fun q4 => (if q4.1 = 0 then (some (0, q4.2)) else ((f_X6_kindOfWord q4.2).bind fun q13 => (if q13.1 = (-1) then ((f_X9_blameWord 0 q13.2).bind fun q27 => (if isB q27.1 = true then (some (q27.1, q27.2)) else none)) else (if (gI q13.2 6 0) < 0 then (f_X6_readStep_50  q13.2) else (if (gI q13.2 6 0) < 40 then (if inb (gI q13.2 6 0) 40 = true then (f_X6_readStep_69  q13.1 (7 + 31 + (((gI q13.2 6 0) : Int32).toNatClampNeg)) q13.2) else none) else (f_X6_readStep_50  q13.2)))))))
set_option maxRecDepth 20000 in
theorem c_X6_readStep {l : Launch} {Γ : GG} (hI : Inj Γ) {S : Mem} {q : Int32 × Mem} (hf : f_X6_readStep S = some q) : MM l Γ yX6_readStep cX6_readStep 3 (some .boolean) 6 129 [aR 6] S (some (aI q.1)) q.2 := by
  refine met_of hI "TickPools$Script" rfl (by decide +kernel) (Nat.le_of_ble_eq_true rfl) (fun X hX C hr => ?_)
  unfold f_X6_readStep at hf
  show ZZ X Γ 3 _ S 0 [(0, aR 6)] []
  refine z_aload_n (j := 0) C d_X6_readStep_0 rfl ?_
  refine zg_X6_tape C rfl tw_359 d_X6_readStep_1 ?_
  obtain ⟨q4, hF, hf⟩ := bd hf
  refine z_callV1 (rest := []) C [] rfl (by decide) rfl rfl k_X9_readWord tw_696 ⟨by decide, by decide⟩ (Nat.le_of_ble_eq_true rfl) d_X6_readStep_4 (c_X9_readWord C.inj hF) rfl ?_
  refine z_if_ne (tgt := 12) C d_X6_readStep_7 (by decide) hf (fun c7 hf => ?_) (fun c7 hf => ?_)
  · refine z_aload_n (j := 0) C d_X6_readStep_12 rfl ?_
    obtain ⟨q13, hF, hf⟩ := bd hf
    refine z_callV1 (rest := []) C [] rfl (by decide) rfl rfl k_X6_kindOfWord tw_697 ⟨by decide, by decide⟩ (Nat.le_of_ble_eq_true rfl) d_X6_readStep_13 (c_X6_kindOfWord C.inj hF) rfl ?_
    refine z_istore_n (lv' := [(1, aI q13.1), (0, aR 6)]) C d_X6_readStep_16 (by decide) rfl ?_
    refine z_iload_n (j := 0) C d_X6_readStep_17 rfl ?_
    refine z_iconst (v := (-1)) C d_X6_readStep_18 (by decide) ?_
    refine z_icmp_ne (tgt := 31) C d_X6_readStep_19 (by decide) hf (fun c19 hf => ?_) (fun c19 hf => ?_)
    · refine z_aload_n (j := 1) C d_X6_readStep_31 rfl ?_
      refine zg_X6_size C rfl tw_357 d_X6_readStep_32 ?_
      refine z_if_lt (tgt := 50) C d_X6_readStep_35 (by decide) hf (fun c35 hf => ?_) (fun c35 hf => ?_)
      · exact z_sub [1] rfl (t_X6_readStep_50 C hr  _ hf)
      · refine z_aload_n (j := 1) C d_X6_readStep_38 rfl ?_
        refine zg_X6_size C rfl tw_357 d_X6_readStep_39 ?_
        refine z_aload_n (j := 1) C d_X6_readStep_42 rfl ?_
        refine zg_X6_steps C rfl tw_360 d_X6_readStep_43 ?_
        refine z_alen (v := 40) C rfl (by decide) (by decide) d_X6_readStep_46 ?_
        refine z_icmp_lt (tgt := 59) C d_X6_readStep_47 (by decide) hf (fun c47 hf => ?_) (fun c47 hf => ?_)
        · refine z_aload_n (j := 1) C d_X6_readStep_59 rfl ?_
          refine zg_X6_steps C rfl tw_360 d_X6_readStep_60 ?_
          refine z_aload_n (j := 1) C d_X6_readStep_63 rfl ?_
          refine zg_X6_size C rfl tw_357 d_X6_readStep_64 ?_
          obtain ⟨hi67_0, hf⟩ := gd hf
          refine z_aldT C rfl hi67_0 d_X6_readStep_67 ?_
          refine z_astore_n (lv' := [(2, aR (7 + 31 + (((gI q13.2 6 0) : Int32).toNatClampNeg))), (1, aI q13.1), (0, aR 6)]) C d_X6_readStep_68 (by decide) rfl ?_
          exact z_sub [2, 1, 0] rfl (t_X6_readStep_69 C hr  _ _ _ hf)
        · exact z_sub [1] rfl (t_X6_readStep_50 C hr  _ hf)
    · refine z_aload_n (j := 1) C d_X6_readStep_22 rfl ?_
      refine zg_X6_tape C rfl tw_359 d_X6_readStep_23 ?_
      refine z_iconst (v := 0) C d_X6_readStep_26 (by decide) ?_
      obtain ⟨q27, hF, hf⟩ := bd hf
      refine z_callV1 (rest := []) C [aI 0] rfl (by decide) rfl rfl k_X9_blameWord tw_709 ⟨by decide, by decide⟩ (Nat.le_of_ble_eq_true rfl) d_X6_readStep_27 (c_X9_blameWord C.inj hF) rfl ?_
      obtain ⟨hb30_1, hf⟩ := gd hf
      exact r_i C hr (isB_nar hb30_1).1 d_X6_readStep_30 hf
  · refine z_iconst (v := 0) C d_X6_readStep_10 (by decide) ?_
    exact r_i C hr (by decide) d_X6_readStep_11 hf
theorem d_X8_hasBrackets_0 : decode cX8_hasBrackets 0 = .ok (.aload_n 0, 1) := by decide +kernel
theorem d_X8_hasBrackets_1 : decode cX8_hasBrackets 1 = .ok (.getfield 7, 3) := by decide +kernel
theorem d_X8_hasBrackets_4 : decode cX8_hasBrackets 4 = .ok (.iconst 5, 1) := by decide +kernel
theorem d_X8_hasBrackets_5 : decode cX8_hasBrackets 5 = .ok (.if_icmp .eq 12, 3) := by decide +kernel
theorem d_X8_hasBrackets_8 : decode cX8_hasBrackets 8 = .ok (.aload_n 0, 1) := by decide +kernel
theorem d_X8_hasBrackets_9 : decode cX8_hasBrackets 9 = .ok (.getfield 7, 3) := by decide +kernel
theorem d_X8_hasBrackets_12 : decode cX8_hasBrackets 12 = .ok (.bipush 6, 2) := by decide +kernel
theorem d_X8_hasBrackets_14 : decode cX8_hasBrackets 14 = .ok (.if_icmp .ne 7, 3) := by decide +kernel
theorem d_X8_hasBrackets_17 : decode cX8_hasBrackets 17 = .ok (.iconst 1, 1) := by decide +kernel
theorem d_X8_hasBrackets_18 : decode cX8_hasBrackets 18 = .ok (.goto 4, 3) := by decide +kernel
theorem d_X8_hasBrackets_21 : decode cX8_hasBrackets 21 = .ok (.iconst 0, 1) := by decide +kernel
theorem d_X8_hasBrackets_22 : decode cX8_hasBrackets 22 = .ok (.ireturn, 1) := by decide +kernel
def f_X8_hasBrackets_22 (s0 : Int32) (S : Mem) : Option (Int32 × Mem) := (if isB s0 = true then (some (s0, S)) else none)
set_option maxRecDepth 20000 in
theorem t_X8_hasBrackets_22 {X : MC} {Γ : GG} (C : CX X Γ cX8_hasBrackets 1 "TickPools$Step" 0 0) (hr : X.2.2.2.2.2.2.2.2.1.sig.returnType = some .boolean) {q : Int32 × Mem} (s0 : Int32) (S : Mem) (hf : f_X8_hasBrackets_22 s0 S = some q) : ZZ X Γ 1 (QQ X Γ (some (aI q.1)) q.2) S 22 [] [aI s0] := by
  unfold f_X8_hasBrackets_22 at hf
  obtain ⟨hb22_0, hf⟩ := gd hf
  exact r_i C hr (isB_nar hb22_0).1 d_X8_hasBrackets_22 hf
def f_X8_hasBrackets_17 (S : Mem) : Option (Int32 × Mem) := (f_X8_hasBrackets_22  1 S)
set_option maxRecDepth 20000 in
theorem t_X8_hasBrackets_17 {X : MC} {Γ : GG} (C : CX X Γ cX8_hasBrackets 1 "TickPools$Step" 0 0) (hr : X.2.2.2.2.2.2.2.2.1.sig.returnType = some .boolean) {q : Int32 × Mem} (S : Mem) (hf : f_X8_hasBrackets_17 S = some q) : ZZ X Γ 1 (QQ X Γ (some (aI q.1)) q.2) S 17 [] [] := by
  unfold f_X8_hasBrackets_17 at hf
  refine z_iconst (v := 1) C d_X8_hasBrackets_17 (by decide) ?_
  refine z_goto (tgt := 22) C d_X8_hasBrackets_18 (by decide) ?_
  exact z_sub [] rfl (t_X8_hasBrackets_22 C hr  _ _ hf)
/-- TickPools$Step.hasBrackets()Z -/
def f_X8_hasBrackets (h0 : Nat) (S : Mem) : Option (Int32 × Mem) := (if kd h0 = (7, 10) then (if (gI S h0 0) = 5 then (f_X8_hasBrackets_17  S) else (if (gI S h0 0) = 6 then (f_X8_hasBrackets_17  S) else (f_X8_hasBrackets_22  0 S))) else none)
set_option maxRecDepth 20000 in
theorem c_X8_hasBrackets {l : Launch} {Γ : GG} (hI : Inj Γ) {h0 : Nat} {S : Mem} {q : Int32 × Mem} (hf : f_X8_hasBrackets h0 S = some q) : MM l Γ yX8_hasBrackets cX8_hasBrackets 1 (some .boolean) 0 0 [aR h0] S (some (aI q.1)) q.2 := by
  refine met_of hI "TickPools$Step" rfl (by decide +kernel) (Nat.le_of_ble_eq_true rfl) (fun X hX C hr => ?_)
  unfold f_X8_hasBrackets at hf
  show ZZ X Γ 1 _ S 0 [(0, aR h0)] []
  refine z_aload_n (j := 0) C d_X8_hasBrackets_0 rfl ?_
  obtain ⟨hg1_0, hf⟩ := gd hf
  refine zg_X8_kind C hg1_0 tw_315 d_X8_hasBrackets_1 ?_
  refine z_iconst (v := 5) C d_X8_hasBrackets_4 (by decide) ?_
  refine z_icmp_eq (tgt := 17) C d_X8_hasBrackets_5 (by decide) hf (fun c5 hf => ?_) (fun c5 hf => ?_)
  · exact z_sub [] rfl (t_X8_hasBrackets_17 C hr  _ hf)
  · refine z_aload_n (j := 0) C d_X8_hasBrackets_8 rfl ?_
    refine zg_X8_kind C hg1_0 tw_315 d_X8_hasBrackets_9 ?_
    refine z_bipush (v := 6) C d_X8_hasBrackets_12 (by decide) ?_
    refine z_icmp_ne (tgt := 21) C d_X8_hasBrackets_14 (by decide) hf (fun c14 hf => ?_) (fun c14 hf => ?_)
    · refine z_iconst (v := 0) C d_X8_hasBrackets_21 (by decide) ?_
      exact z_sub [] rfl (t_X8_hasBrackets_22 C hr  _ _ hf)
    · exact z_sub [] rfl (t_X8_hasBrackets_17 C hr  _ hf)
theorem d_X6_openBracket_0 : decode cX6_openBracket 0 = .ok (.aload_n 0, 1) := by decide +kernel
theorem d_X6_openBracket_1 : decode cX6_openBracket 1 = .ok (.getfield 9, 3) := by decide +kernel
theorem d_X6_openBracket_4 : decode cX6_openBracket 4 = .ok (.invokevirtual 55, 3) := by decide +kernel
theorem d_X6_openBracket_7 : decode cX6_openBracket 7 = .ok (.bipush 91, 2) := by decide +kernel
theorem d_X6_openBracket_9 : decode cX6_openBracket 9 = .ok (.if_icmp .eq 12, 3) := by decide +kernel
theorem d_X6_openBracket_12 : decode cX6_openBracket 12 = .ok (.aload_n 0, 1) := by decide +kernel
theorem d_X6_openBracket_13 : decode cX6_openBracket 13 = .ok (.getfield 9, 3) := by decide +kernel
theorem d_X6_openBracket_16 : decode cX6_openBracket 16 = .ok (.iconst 0, 1) := by decide +kernel
theorem d_X6_openBracket_17 : decode cX6_openBracket 17 = .ok (.invokevirtual 63, 3) := by decide +kernel
theorem d_X6_openBracket_20 : decode cX6_openBracket 20 = .ok (.ireturn, 1) := by decide +kernel
theorem d_X6_openBracket_21 : decode cX6_openBracket 21 = .ok (.aload_n 0, 1) := by decide +kernel
theorem d_X6_openBracket_22 : decode cX6_openBracket 22 = .ok (.getfield 35, 3) := by decide +kernel
theorem d_X6_openBracket_25 : decode cX6_openBracket 25 = .ok (.ifCond .lt 15, 3) := by decide +kernel
theorem d_X6_openBracket_28 : decode cX6_openBracket 28 = .ok (.aload_n 0, 1) := by decide +kernel
theorem d_X6_openBracket_29 : decode cX6_openBracket 29 = .ok (.getfield 35, 3) := by decide +kernel
theorem d_X6_openBracket_32 : decode cX6_openBracket 32 = .ok (.aload_n 0, 1) := by decide +kernel
theorem d_X6_openBracket_33 : decode cX6_openBracket 33 = .ok (.getfield 22, 3) := by decide +kernel
theorem d_X6_openBracket_36 : decode cX6_openBracket 36 = .ok (.arraylength, 1) := by decide +kernel
theorem d_X6_openBracket_37 : decode cX6_openBracket 37 = .ok (.if_icmp .lt 12, 3) := by decide +kernel
theorem d_X6_openBracket_40 : decode cX6_openBracket 40 = .ok (.aload_n 0, 1) := by decide +kernel
theorem d_X6_openBracket_41 : decode cX6_openBracket 41 = .ok (.getfield 9, 3) := by decide +kernel
theorem d_X6_openBracket_44 : decode cX6_openBracket 44 = .ok (.iconst 3, 1) := by decide +kernel
theorem d_X6_openBracket_45 : decode cX6_openBracket 45 = .ok (.invokevirtual 63, 3) := by decide +kernel
theorem d_X6_openBracket_48 : decode cX6_openBracket 48 = .ok (.ireturn, 1) := by decide +kernel
theorem d_X6_openBracket_49 : decode cX6_openBracket 49 = .ok (.aload_n 0, 1) := by decide +kernel
theorem d_X6_openBracket_50 : decode cX6_openBracket 50 = .ok (.getfield 9, 3) := by decide +kernel
theorem d_X6_openBracket_53 : decode cX6_openBracket 53 = .ok (.bipush 91, 2) := by decide +kernel
theorem d_X6_openBracket_55 : decode cX6_openBracket 55 = .ok (.invokevirtual 59, 3) := by decide +kernel
theorem d_X6_openBracket_58 : decode cX6_openBracket 58 = .ok (.pop, 1) := by decide +kernel
theorem d_X6_openBracket_59 : decode cX6_openBracket 59 = .ok (.aload_n 0, 1) := by decide +kernel
theorem d_X6_openBracket_60 : decode cX6_openBracket 60 = .ok (.getfield 22, 3) := by decide +kernel
theorem d_X6_openBracket_63 : decode cX6_openBracket 63 = .ok (.aload_n 0, 1) := by decide +kernel
theorem d_X6_openBracket_64 : decode cX6_openBracket 64 = .ok (.getfield 35, 3) := by decide +kernel
theorem d_X6_openBracket_67 : decode cX6_openBracket 67 = .ok (.aload_n 0, 1) := by decide +kernel
theorem d_X6_openBracket_68 : decode cX6_openBracket 68 = .ok (.getfield 26, 3) := by decide +kernel
theorem d_X6_openBracket_71 : decode cX6_openBracket 71 = .ok (.iconst 1, 1) := by decide +kernel
theorem d_X6_openBracket_72 : decode cX6_openBracket 72 = .ok (.isub, 1) := by decide +kernel
theorem d_X6_openBracket_73 : decode cX6_openBracket 73 = .ok (.iastore, 1) := by decide +kernel
theorem d_X6_openBracket_74 : decode cX6_openBracket 74 = .ok (.aload_n 0, 1) := by decide +kernel
theorem d_X6_openBracket_75 : decode cX6_openBracket 75 = .ok (.dup, 1) := by decide +kernel
theorem d_X6_openBracket_76 : decode cX6_openBracket 76 = .ok (.getfield 35, 3) := by decide +kernel
theorem d_X6_openBracket_79 : decode cX6_openBracket 79 = .ok (.iconst 1, 1) := by decide +kernel
theorem d_X6_openBracket_80 : decode cX6_openBracket 80 = .ok (.iadd, 1) := by decide +kernel
theorem d_X6_openBracket_81 : decode cX6_openBracket 81 = .ok (.putfield 35, 3) := by decide +kernel
theorem d_X6_openBracket_84 : decode cX6_openBracket 84 = .ok (.iconst 1, 1) := by decide +kernel
theorem d_X6_openBracket_85 : decode cX6_openBracket 85 = .ok (.ireturn, 1) := by decide +kernel
def f_X6_openBracket_40 (S : Mem) : Option (Int32 × Mem) := ((f_X9_blameHere 3 S).bind fun q45 => (if isB q45.1 = true then (some (q45.1, q45.2)) else none))
set_option maxRecDepth 20000 in
theorem t_X6_openBracket_40 {X : MC} {Γ : GG} (C : CX X Γ cX6_openBracket 1 "TickPools$Script" 3 62) (hr : X.2.2.2.2.2.2.2.2.1.sig.returnType = some .boolean) {q : Int32 × Mem} (S : Mem) (hf : f_X6_openBracket_40 S = some q) : ZZ X Γ 1 (QQ X Γ (some (aI q.1)) q.2) S 40 [(0, aR 6)] [] := by
  unfold f_X6_openBracket_40 at hf
  refine z_aload_n (j := 0) C d_X6_openBracket_40 rfl ?_
  refine zg_X6_tape C rfl tw_359 d_X6_openBracket_41 ?_
  refine z_iconst (v := 3) C d_X6_openBracket_44 (by decide) ?_
  obtain ⟨q45, hF, hf⟩ := bd hf
  refine z_callV1 (rest := []) C [aI 3] rfl (by decide) rfl rfl k_X9_blameHere tw_749 ⟨by decide, by decide⟩ (Nat.le_of_ble_eq_true rfl) d_X6_openBracket_45 (c_X9_blameHere C.inj hF) rfl ?_
  obtain ⟨hb48_1, hf⟩ := gd hf
  exact r_i C hr (isB_nar hb48_1).1 d_X6_openBracket_48 hf
/-- TickPools$Script.openBracket()Z -/
def f_X6_openBracket (S : Mem) : Option (Int32 × Mem) := ((f_X9_peek S).bind fun q4 => (if q4.1 = 91 then (if (gI q4.2 6 4) < 0 then (f_X6_openBracket_40  q4.2) else (if (gI q4.2 6 4) < 4 then ((f_X9_accept 91 q4.2).bind fun q55 => (if inb (gI q55.2 6 4) 4 = true then (some (1, (sI (sI q55.2 8 (((gI q55.2 6 4) : Int32).toNatClampNeg) ((gI q55.2 6 0) - 1)) 6 4 ((gI (sI q55.2 8 (((gI q55.2 6 4) : Int32).toNatClampNeg) ((gI q55.2 6 0) - 1)) 6 4) + 1)))) else none)) else (f_X6_openBracket_40  q4.2))) else ((f_X9_blameHere 0 q4.2).bind fun q17 => (if isB q17.1 = true then (some (q17.1, q17.2)) else none))))
set_option maxRecDepth 20000 in
theorem c_X6_openBracket {l : Launch} {Γ : GG} (hI : Inj Γ) {S : Mem} {q : Int32 × Mem} (hf : f_X6_openBracket S = some q) : MM l Γ yX6_openBracket cX6_openBracket 1 (some .boolean) 3 62 [aR 6] S (some (aI q.1)) q.2 := by
  refine met_of hI "TickPools$Script" rfl (by decide +kernel) (Nat.le_of_ble_eq_true rfl) (fun X hX C hr => ?_)
  unfold f_X6_openBracket at hf
  show ZZ X Γ 1 _ S 0 [(0, aR 6)] []
  refine z_aload_n (j := 0) C d_X6_openBracket_0 rfl ?_
  refine zg_X6_tape C rfl tw_359 d_X6_openBracket_1 ?_
  obtain ⟨q4, hF, hf⟩ := bd hf
  refine z_callV1 (rest := []) C [] rfl (by decide) rfl rfl k_X9_peek tw_733 ⟨by decide, by decide⟩ (Nat.le_of_ble_eq_true rfl) d_X6_openBracket_4 (c_X9_peek C.inj hF) rfl ?_
  refine z_bipush (v := 91) C d_X6_openBracket_7 (by decide) ?_
  refine z_icmp_eq (tgt := 21) C d_X6_openBracket_9 (by decide) hf (fun c9 hf => ?_) (fun c9 hf => ?_)
  · refine z_aload_n (j := 0) C d_X6_openBracket_21 rfl ?_
    refine zg_X6_deep C rfl tw_362 d_X6_openBracket_22 ?_
    refine z_if_lt (tgt := 40) C d_X6_openBracket_25 (by decide) hf (fun c25 hf => ?_) (fun c25 hf => ?_)
    · exact z_sub [0] rfl (t_X6_openBracket_40 C hr  _ hf)
    · refine z_aload_n (j := 0) C d_X6_openBracket_28 rfl ?_
      refine zg_X6_deep C rfl tw_362 d_X6_openBracket_29 ?_
      refine z_aload_n (j := 0) C d_X6_openBracket_32 rfl ?_
      refine zg_X6_open C rfl tw_361 d_X6_openBracket_33 ?_
      refine z_alen (v := 4) C rfl (by decide) (by decide) d_X6_openBracket_36 ?_
      refine z_icmp_lt (tgt := 49) C d_X6_openBracket_37 (by decide) hf (fun c37 hf => ?_) (fun c37 hf => ?_)
      · refine z_aload_n (j := 0) C d_X6_openBracket_49 rfl ?_
        refine zg_X6_tape C rfl tw_359 d_X6_openBracket_50 ?_
        refine z_bipush (v := 91) C d_X6_openBracket_53 (by decide) ?_
        obtain ⟨q55, hF, hf⟩ := bd hf
        refine z_callV1 (rest := []) C [aI 91] rfl (by decide) rfl rfl k_X9_accept tw_750 ⟨by decide, by decide⟩ (Nat.le_of_ble_eq_true rfl) d_X6_openBracket_55 (c_X9_accept C.inj hF) rfl ?_
        refine z_pop C d_X6_openBracket_58 rfl ?_
        refine z_aload_n (j := 0) C d_X6_openBracket_59 rfl ?_
        refine zg_X6_open C rfl tw_361 d_X6_openBracket_60 ?_
        refine z_aload_n (j := 0) C d_X6_openBracket_63 rfl ?_
        refine zg_X6_deep C rfl tw_362 d_X6_openBracket_64 ?_
        refine z_aload_n (j := 0) C d_X6_openBracket_67 rfl ?_
        refine zg_X6_size C rfl tw_357 d_X6_openBracket_68 ?_
        refine z_iconst (v := 1) C d_X6_openBracket_71 (by decide) ?_
        refine z_isub C d_X6_openBracket_72 ?_
        obtain ⟨hi73_1, hf⟩ := gd hf
        refine z_iast C rfl hi73_1 d_X6_openBracket_73 ?_
        refine z_aload_n (j := 0) C d_X6_openBracket_74 rfl ?_
        refine z_dup C d_X6_openBracket_75 rfl ?_
        refine zg_X6_deep C rfl tw_362 d_X6_openBracket_76 ?_
        refine z_iconst (v := 1) C d_X6_openBracket_79 (by decide) ?_
        refine z_iadd C d_X6_openBracket_80 ?_
        refine zp_X6_deep C rfl tw_362 d_X6_openBracket_81 ?_
        refine z_iconst (v := 1) C d_X6_openBracket_84 (by decide) ?_
        exact r_i C hr (by decide) d_X6_openBracket_85 hf
      · exact z_sub [0] rfl (t_X6_openBracket_40 C hr  _ hf)
  · refine z_aload_n (j := 0) C d_X6_openBracket_12 rfl ?_
    refine zg_X6_tape C rfl tw_359 d_X6_openBracket_13 ?_
    refine z_iconst (v := 0) C d_X6_openBracket_16 (by decide) ?_
    obtain ⟨q17, hF, hf⟩ := bd hf
    refine z_callV1 (rest := []) C [aI 0] rfl (by decide) rfl rfl k_X9_blameHere tw_749 ⟨by decide, by decide⟩ (Nat.le_of_ble_eq_true rfl) d_X6_openBracket_17 (c_X9_blameHere C.inj hF) rfl ?_
    obtain ⟨hb20_1, hf⟩ := gd hf
    exact r_i C hr (isB_nar hb20_1).1 d_X6_openBracket_20 hf
theorem d_X6_closeBrackets_0 : decode cX6_closeBrackets 0 = .ok (.aload_n 0, 1) := by decide +kernel
theorem d_X6_closeBrackets_1 : decode cX6_closeBrackets 1 = .ok (.getfield 35, 3) := by decide +kernel
theorem d_X6_closeBrackets_4 : decode cX6_closeBrackets 4 = .ok (.ifCond .le 66, 3) := by decide +kernel
theorem d_X6_closeBrackets_7 : decode cX6_closeBrackets 7 = .ok (.aload_n 0, 1) := by decide +kernel
theorem d_X6_closeBrackets_8 : decode cX6_closeBrackets 8 = .ok (.getfield 35, 3) := by decide +kernel
theorem d_X6_closeBrackets_11 : decode cX6_closeBrackets 11 = .ok (.aload_n 0, 1) := by decide +kernel
theorem d_X6_closeBrackets_12 : decode cX6_closeBrackets 12 = .ok (.getfield 22, 3) := by decide +kernel
theorem d_X6_closeBrackets_15 : decode cX6_closeBrackets 15 = .ok (.arraylength, 1) := by decide +kernel
theorem d_X6_closeBrackets_16 : decode cX6_closeBrackets 16 = .ok (.if_icmp .gt 54, 3) := by decide +kernel
theorem d_X6_closeBrackets_19 : decode cX6_closeBrackets 19 = .ok (.aload_n 0, 1) := by decide +kernel
theorem d_X6_closeBrackets_20 : decode cX6_closeBrackets 20 = .ok (.getfield 9, 3) := by decide +kernel
theorem d_X6_closeBrackets_23 : decode cX6_closeBrackets 23 = .ok (.bipush 93, 2) := by decide +kernel
theorem d_X6_closeBrackets_25 : decode cX6_closeBrackets 25 = .ok (.invokevirtual 59, 3) := by decide +kernel
theorem d_X6_closeBrackets_28 : decode cX6_closeBrackets 28 = .ok (.ifCond .eq 42, 3) := by decide +kernel
theorem d_X6_closeBrackets_31 : decode cX6_closeBrackets 31 = .ok (.aload_n 0, 1) := by decide +kernel
theorem d_X6_closeBrackets_32 : decode cX6_closeBrackets 32 = .ok (.dup, 1) := by decide +kernel
theorem d_X6_closeBrackets_33 : decode cX6_closeBrackets 33 = .ok (.getfield 35, 3) := by decide +kernel
theorem d_X6_closeBrackets_36 : decode cX6_closeBrackets 36 = .ok (.iconst 1, 1) := by decide +kernel
theorem d_X6_closeBrackets_37 : decode cX6_closeBrackets 37 = .ok (.isub, 1) := by decide +kernel
theorem d_X6_closeBrackets_38 : decode cX6_closeBrackets 38 = .ok (.putfield 35, 3) := by decide +kernel
theorem d_X6_closeBrackets_41 : decode cX6_closeBrackets 41 = .ok (.aload_n 0, 1) := by decide +kernel
theorem d_X6_closeBrackets_42 : decode cX6_closeBrackets 42 = .ok (.aload_n 0, 1) := by decide +kernel
theorem d_X6_closeBrackets_43 : decode cX6_closeBrackets 43 = .ok (.getfield 22, 3) := by decide +kernel
theorem d_X6_closeBrackets_46 : decode cX6_closeBrackets 46 = .ok (.aload_n 0, 1) := by decide +kernel
theorem d_X6_closeBrackets_47 : decode cX6_closeBrackets 47 = .ok (.getfield 35, 3) := by decide +kernel
theorem d_X6_closeBrackets_50 : decode cX6_closeBrackets 50 = .ok (.iaload, 1) := by decide +kernel
theorem d_X6_closeBrackets_51 : decode cX6_closeBrackets 51 = .ok (.invokevirtual 42, 3) := by decide +kernel
theorem d_X6_closeBrackets_54 : decode cX6_closeBrackets 54 = .ok (.astore_n 1, 1) := by decide +kernel
theorem d_X6_closeBrackets_55 : decode cX6_closeBrackets 55 = .ok (.aload_n 1, 1) := by decide +kernel
theorem d_X6_closeBrackets_56 : decode cX6_closeBrackets 56 = .ok (.ifnull 11, 3) := by decide +kernel
theorem d_X6_closeBrackets_59 : decode cX6_closeBrackets 59 = .ok (.aload_n 1, 1) := by decide +kernel
theorem d_X6_closeBrackets_60 : decode cX6_closeBrackets 60 = .ok (.aload_n 0, 1) := by decide +kernel
theorem d_X6_closeBrackets_61 : decode cX6_closeBrackets 61 = .ok (.getfield 26, 3) := by decide +kernel
theorem d_X6_closeBrackets_64 : decode cX6_closeBrackets 64 = .ok (.putfield 66, 3) := by decide +kernel
theorem d_X6_closeBrackets_67 : decode cX6_closeBrackets 67 = .ok (.goto (-67), 3) := by decide +kernel
theorem d_X6_closeBrackets_70 : decode cX6_closeBrackets 70 = .ok (.return_, 1) := by decide +kernel
def f_X6_closeBrackets_67 (k0 : Mem → Option (Unit × Mem)) (S : Mem) : Option (Unit × Mem) := (k0 S)
set_option maxRecDepth 20000 in
theorem t_X6_closeBrackets_67 {X : MC} {Γ : GG} (C : CX X Γ cX6_closeBrackets 2 "TickPools$Script" 3 62) (hr : X.2.2.2.2.2.2.2.2.1.sig.returnType = none) {k0 : Mem → Option (Unit × Mem)} {q : Unit × Mem} (hk0 : ∀  (S : Mem), k0  S = some q → ZZ X Γ 2 (QQ X Γ none q.2) S 0 [(0, aR 6)] []) (S : Mem) (hf : f_X6_closeBrackets_67 k0 S = some q) : ZZ X Γ 2 (QQ X Γ none q.2) S 67 [(0, aR 6)] [] := by
  unfold f_X6_closeBrackets_67 at hf
  refine z_goto (tgt := 0) C d_X6_closeBrackets_67 (by decide) ?_
  exact z_sub [0] rfl (hk0 _ hf)
def f_X6_closeBrackets_70 (S : Mem) : Option (Unit × Mem) := (some ((), S))
set_option maxRecDepth 20000 in
theorem t_X6_closeBrackets_70 {X : MC} {Γ : GG} (C : CX X Γ cX6_closeBrackets 2 "TickPools$Script" 3 62) (hr : X.2.2.2.2.2.2.2.2.1.sig.returnType = none) {q : Unit × Mem} (S : Mem) (hf : f_X6_closeBrackets_70 S = some q) : ZZ X Γ 2 (QQ X Γ none q.2) S 70 [] [] := by
  unfold f_X6_closeBrackets_70 at hf
  exact r_v C hr d_X6_closeBrackets_70 hf
def f_X6_closeBrackets_0B (k0 : Mem → Option (Unit × Mem)) (S : Mem) : Option (Unit × Mem) := (if (gI S 6 4) ≤ 0 then (f_X6_closeBrackets_70  S) else (if 4 < (gI S 6 4) then (f_X6_closeBrackets_70  S) else ((f_X9_accept 93 S).bind fun q25 => (if q25.1 = 0 then (f_X6_closeBrackets_70  q25.2) else (if inb (gI (sI q25.2 6 4 ((gI q25.2 6 4) - 1)) 6 4) 4 = true then ((f_X6_stepAt (gI (sI q25.2 6 4 ((gI q25.2 6 4) - 1)) 8 (((gI (sI q25.2 6 4 ((gI q25.2 6 4) - 1)) 6 4) : Int32).toNatClampNeg)) (sI q25.2 6 4 ((gI q25.2 6 4) - 1))).bind fun q51 => (if q51.1 = 0 then (f_X6_closeBrackets_67 k0 q51.2) else (if kd q51.1 = (7, 10) then (f_X6_closeBrackets_67 k0 (sI q51.2 q51.1 9 (gI q51.2 6 0))) else none))) else none)))))
set_option maxRecDepth 20000 in
theorem t_X6_closeBrackets_0B {X : MC} {Γ : GG} (C : CX X Γ cX6_closeBrackets 2 "TickPools$Script" 3 62) (hr : X.2.2.2.2.2.2.2.2.1.sig.returnType = none) {k0 : Mem → Option (Unit × Mem)} {q : Unit × Mem} (hk0 : ∀  (S : Mem), k0  S = some q → ZZ X Γ 2 (QQ X Γ none q.2) S 0 [(0, aR 6)] []) (S : Mem) (hf : f_X6_closeBrackets_0B k0 S = some q) : ZZ X Γ 2 (QQ X Γ none q.2) S 0 [(0, aR 6)] [] := by
  unfold f_X6_closeBrackets_0B at hf
  refine z_aload_n (j := 0) C d_X6_closeBrackets_0 rfl ?_
  refine zg_X6_deep C rfl tw_362 d_X6_closeBrackets_1 ?_
  refine z_if_le (tgt := 70) C d_X6_closeBrackets_4 (by decide) hf (fun c4 hf => ?_) (fun c4 hf => ?_)
  · exact z_sub [] rfl (t_X6_closeBrackets_70 C hr  _ hf)
  · refine z_aload_n (j := 0) C d_X6_closeBrackets_7 rfl ?_
    refine zg_X6_deep C rfl tw_362 d_X6_closeBrackets_8 ?_
    refine z_aload_n (j := 0) C d_X6_closeBrackets_11 rfl ?_
    refine zg_X6_open C rfl tw_361 d_X6_closeBrackets_12 ?_
    refine z_alen (v := 4) C rfl (by decide) (by decide) d_X6_closeBrackets_15 ?_
    refine z_icmp_gt (tgt := 70) C d_X6_closeBrackets_16 (by decide) hf (fun c16 hf => ?_) (fun c16 hf => ?_)
    · exact z_sub [] rfl (t_X6_closeBrackets_70 C hr  _ hf)
    · refine z_aload_n (j := 0) C d_X6_closeBrackets_19 rfl ?_
      refine zg_X6_tape C rfl tw_359 d_X6_closeBrackets_20 ?_
      refine z_bipush (v := 93) C d_X6_closeBrackets_23 (by decide) ?_
      obtain ⟨q25, hF, hf⟩ := bd hf
      refine z_callV1 (rest := []) C [aI 93] rfl (by decide) rfl rfl k_X9_accept tw_750 ⟨by decide, by decide⟩ (Nat.le_of_ble_eq_true rfl) d_X6_closeBrackets_25 (c_X9_accept C.inj hF) rfl ?_
      refine z_if_eq (tgt := 70) C d_X6_closeBrackets_28 (by decide) hf (fun c28 hf => ?_) (fun c28 hf => ?_)
      · exact z_sub [] rfl (t_X6_closeBrackets_70 C hr  _ hf)
      · refine z_aload_n (j := 0) C d_X6_closeBrackets_31 rfl ?_
        refine z_dup C d_X6_closeBrackets_32 rfl ?_
        refine zg_X6_deep C rfl tw_362 d_X6_closeBrackets_33 ?_
        refine z_iconst (v := 1) C d_X6_closeBrackets_36 (by decide) ?_
        refine z_isub C d_X6_closeBrackets_37 ?_
        refine zp_X6_deep C rfl tw_362 d_X6_closeBrackets_38 ?_
        refine z_aload_n (j := 0) C d_X6_closeBrackets_41 rfl ?_
        refine z_aload_n (j := 0) C d_X6_closeBrackets_42 rfl ?_
        refine zg_X6_open C rfl tw_361 d_X6_closeBrackets_43 ?_
        refine z_aload_n (j := 0) C d_X6_closeBrackets_46 rfl ?_
        refine zg_X6_deep C rfl tw_362 d_X6_closeBrackets_47 ?_
        obtain ⟨hi50_0, hf⟩ := gd hf
        refine z_iald C rfl hi50_0 d_X6_closeBrackets_50 ?_
        obtain ⟨q51, hF, hf⟩ := bd hf
        refine z_callV1 (rest := []) C [aI (gI (sI q25.2 6 4 ((gI q25.2 6 4) - 1)) 8 (((gI (sI q25.2 6 4 ((gI q25.2 6 4) - 1)) 6 4) : Int32).toNatClampNeg))] rfl (by decide) rfl rfl k_X6_stepAt tw_737 ⟨by decide, by decide⟩ (Nat.le_of_ble_eq_true rfl) d_X6_closeBrackets_51 (c_X6_stepAt C.inj hF) rfl ?_
        refine z_astore_n (lv' := [(1, aR q51.1), (0, aR 6)]) C d_X6_closeBrackets_54 (by decide) rfl ?_
        refine z_aload_n (j := 0) C d_X6_closeBrackets_55 rfl ?_
        refine z_ifnull (tgt := 67) C d_X6_closeBrackets_56 (by decide) hf (fun c56 hf => ?_) (fun c56 hf => ?_)
        · exact z_sub [1] rfl (t_X6_closeBrackets_67 C hr hk0 _ hf)
        · refine z_aload_n (j := 0) C d_X6_closeBrackets_59 rfl ?_
          refine z_aload_n (j := 1) C d_X6_closeBrackets_60 rfl ?_
          refine zg_X6_size C rfl tw_357 d_X6_closeBrackets_61 ?_
          obtain ⟨hg64_0, hf⟩ := gd hf
          refine zp_X8_after C hg64_0 tw_335 d_X6_closeBrackets_64 ?_
          exact z_sub [1] rfl (t_X6_closeBrackets_67 C hr hk0 _ hf)
def f_X6_closeBrackets_0 : Nat → Mem → Option (Unit × Mem)
  | 0 => fun _ => none
  | n + 1 => f_X6_closeBrackets_0B (f_X6_closeBrackets_0 n)
theorem t_X6_closeBrackets_0 {X : MC} {Γ : GG} (C : CX X Γ cX6_closeBrackets 2 "TickPools$Script" 3 62) (hr : X.2.2.2.2.2.2.2.2.1.sig.returnType = none) {q : Unit × Mem} : ∀ (n : Nat) (S : Mem) (hf : f_X6_closeBrackets_0 n S = some q), ZZ X Γ 2 (QQ X Γ none q.2) S 0 [(0, aR 6)] []
  | 0, _, hf => nomatch (show (none : Option (Unit × Mem)) = some q from hf)
  | n + 1, S, hf => t_X6_closeBrackets_0B C hr (t_X6_closeBrackets_0 C hr n) S hf
/-- TickPools$Script.closeBrackets()V -/
def f_X6_closeBrackets (S : Mem) : Option (Unit × Mem) := (f_X6_closeBrackets_0  100000 S)
set_option maxRecDepth 20000 in
theorem c_X6_closeBrackets {l : Launch} {Γ : GG} (hI : Inj Γ) {S : Mem} {q : Unit × Mem} (hf : f_X6_closeBrackets S = some q) : MM l Γ yX6_closeBrackets cX6_closeBrackets 2 (none) 3 62 [aR 6] S none q.2 := by
  refine met_of hI "TickPools$Script" rfl (by decide +kernel) (Nat.le_of_ble_eq_true rfl) (fun X hX C hr => ?_)
  unfold f_X6_closeBrackets at hf
  show ZZ X Γ 2 _ S 0 [(0, aR 6)] []
  exact z_sub [0] rfl (t_X6_closeBrackets_0 C hr  100000 _ hf)
theorem d_X6_compile_0 : decode cX6_compile 0 = .ok (.aload_n 0, 1) := by decide +kernel
theorem d_X6_compile_1 : decode cX6_compile 1 = .ok (.getfield 9, 3) := by decide +kernel
theorem d_X6_compile_4 : decode cX6_compile 4 = .ok (.invokevirtual 30, 3) := by decide +kernel
theorem d_X6_compile_7 : decode cX6_compile 7 = .ok (.aload_n 0, 1) := by decide +kernel
theorem d_X6_compile_8 : decode cX6_compile 8 = .ok (.iconst 0, 1) := by decide +kernel
theorem d_X6_compile_9 : decode cX6_compile 9 = .ok (.putfield 26, 3) := by decide +kernel
theorem d_X6_compile_12 : decode cX6_compile 12 = .ok (.aload_n 0, 1) := by decide +kernel
theorem d_X6_compile_13 : decode cX6_compile 13 = .ok (.iconst 0, 1) := by decide +kernel
theorem d_X6_compile_14 : decode cX6_compile 14 = .ok (.putfield 35, 3) := by decide +kernel
theorem d_X6_compile_17 : decode cX6_compile 17 = .ok (.iconst 0, 1) := by decide +kernel
theorem d_X6_compile_18 : decode cX6_compile 18 = .ok (.istore_n 1, 1) := by decide +kernel
theorem d_X6_compile_19 : decode cX6_compile 19 = .ok (.iload_n 1, 1) := by decide +kernel
theorem d_X6_compile_20 : decode cX6_compile 20 = .ok (.bipush 40, 2) := by decide +kernel
theorem d_X6_compile_22 : decode cX6_compile 22 = .ok (.if_icmp .gt 94, 3) := by decide +kernel
theorem d_X6_compile_25 : decode cX6_compile 25 = .ok (.aload_n 0, 1) := by decide +kernel
theorem d_X6_compile_26 : decode cX6_compile 26 = .ok (.invokevirtual 38, 3) := by decide +kernel
theorem d_X6_compile_29 : decode cX6_compile 29 = .ok (.ifCond .ne 5, 3) := by decide +kernel
theorem d_X6_compile_32 : decode cX6_compile 32 = .ok (.iconst 0, 1) := by decide +kernel
theorem d_X6_compile_33 : decode cX6_compile 33 = .ok (.ireturn, 1) := by decide +kernel
theorem d_X6_compile_34 : decode cX6_compile 34 = .ok (.aload_n 0, 1) := by decide +kernel
theorem d_X6_compile_35 : decode cX6_compile 35 = .ok (.aload_n 0, 1) := by decide +kernel
theorem d_X6_compile_36 : decode cX6_compile 36 = .ok (.getfield 26, 3) := by decide +kernel
theorem d_X6_compile_39 : decode cX6_compile 39 = .ok (.iconst 1, 1) := by decide +kernel
theorem d_X6_compile_40 : decode cX6_compile 40 = .ok (.isub, 1) := by decide +kernel
theorem d_X6_compile_41 : decode cX6_compile 41 = .ok (.invokevirtual 42, 3) := by decide +kernel
theorem d_X6_compile_44 : decode cX6_compile 44 = .ok (.astore_n 2, 1) := by decide +kernel
theorem d_X6_compile_45 : decode cX6_compile 45 = .ok (.aload_n 2, 1) := by decide +kernel
theorem d_X6_compile_46 : decode cX6_compile 46 = .ok (.ifnull 19, 3) := by decide +kernel
theorem d_X6_compile_49 : decode cX6_compile 49 = .ok (.aload_n 2, 1) := by decide +kernel
theorem d_X6_compile_50 : decode cX6_compile 50 = .ok (.invokevirtual 46, 3) := by decide +kernel
theorem d_X6_compile_53 : decode cX6_compile 53 = .ok (.ifCond .eq 12, 3) := by decide +kernel
theorem d_X6_compile_56 : decode cX6_compile 56 = .ok (.aload_n 0, 1) := by decide +kernel
theorem d_X6_compile_57 : decode cX6_compile 57 = .ok (.invokevirtual 49, 3) := by decide +kernel
theorem d_X6_compile_60 : decode cX6_compile 60 = .ok (.ifCond .ne 50, 3) := by decide +kernel
theorem d_X6_compile_63 : decode cX6_compile 63 = .ok (.iconst 0, 1) := by decide +kernel
theorem d_X6_compile_64 : decode cX6_compile 64 = .ok (.ireturn, 1) := by decide +kernel
theorem d_X6_compile_65 : decode cX6_compile 65 = .ok (.aload_n 0, 1) := by decide +kernel
theorem d_X6_compile_66 : decode cX6_compile 66 = .ok (.invokevirtual 52, 3) := by decide +kernel
theorem d_X6_compile_69 : decode cX6_compile 69 = .ok (.aload_n 0, 1) := by decide +kernel
theorem d_X6_compile_70 : decode cX6_compile 70 = .ok (.getfield 35, 3) := by decide +kernel
theorem d_X6_compile_73 : decode cX6_compile 73 = .ok (.ifCond .ne 16, 3) := by decide +kernel
theorem d_X6_compile_76 : decode cX6_compile 76 = .ok (.aload_n 0, 1) := by decide +kernel
theorem d_X6_compile_77 : decode cX6_compile 77 = .ok (.getfield 9, 3) := by decide +kernel
theorem d_X6_compile_80 : decode cX6_compile 80 = .ok (.invokevirtual 55, 3) := by decide +kernel
theorem d_X6_compile_83 : decode cX6_compile 83 = .ok (.iconst (-1), 1) := by decide +kernel
theorem d_X6_compile_84 : decode cX6_compile 84 = .ok (.if_icmp .ne 5, 3) := by decide +kernel
theorem d_X6_compile_87 : decode cX6_compile 87 = .ok (.iconst 1, 1) := by decide +kernel
theorem d_X6_compile_88 : decode cX6_compile 88 = .ok (.ireturn, 1) := by decide +kernel
theorem d_X6_compile_89 : decode cX6_compile 89 = .ok (.aload_n 0, 1) := by decide +kernel
theorem d_X6_compile_90 : decode cX6_compile 90 = .ok (.getfield 9, 3) := by decide +kernel
theorem d_X6_compile_93 : decode cX6_compile 93 = .ok (.bipush 59, 2) := by decide +kernel
theorem d_X6_compile_95 : decode cX6_compile 95 = .ok (.invokevirtual 59, 3) := by decide +kernel
theorem d_X6_compile_98 : decode cX6_compile 98 = .ok (.ifCond .ne 12, 3) := by decide +kernel
theorem d_X6_compile_101 : decode cX6_compile 101 = .ok (.aload_n 0, 1) := by decide +kernel
theorem d_X6_compile_102 : decode cX6_compile 102 = .ok (.getfield 9, 3) := by decide +kernel
theorem d_X6_compile_105 : decode cX6_compile 105 = .ok (.iconst 0, 1) := by decide +kernel
theorem d_X6_compile_106 : decode cX6_compile 106 = .ok (.invokevirtual 63, 3) := by decide +kernel
theorem d_X6_compile_109 : decode cX6_compile 109 = .ok (.ireturn, 1) := by decide +kernel
theorem d_X6_compile_110 : decode cX6_compile 110 = .ok (.iinc 1 1, 3) := by decide +kernel
theorem d_X6_compile_113 : decode cX6_compile 113 = .ok (.goto (-94), 3) := by decide +kernel
theorem d_X6_compile_116 : decode cX6_compile 116 = .ok (.iconst 0, 1) := by decide +kernel
theorem d_X6_compile_117 : decode cX6_compile 117 = .ok (.ireturn, 1) := by decide +kernel
def f_X6_compile_110 (k19 : Int32 → Mem → Option (Int32 × Mem)) (v1 : Int32) (S : Mem) : Option (Int32 × Mem) := (k19 (v1 + 1) S)
set_option maxRecDepth 20000 in
theorem t_X6_compile_110 {X : MC} {Γ : GG} (C : CX X Γ cX6_compile 3 "TickPools$Script" 7 151) (hr : X.2.2.2.2.2.2.2.2.1.sig.returnType = some .boolean) {k19 : Int32 → Mem → Option (Int32 × Mem)} {q : Int32 × Mem} (hk19 : ∀ (v1 : Int32) (S : Mem), k19 v1 S = some q → ZZ X Γ 3 (QQ X Γ (some (aI q.1)) q.2) S 19 [(0, aR 6), (1, aI v1)] []) (v1 : Int32) (S : Mem) (hf : f_X6_compile_110 k19 v1 S = some q) : ZZ X Γ 3 (QQ X Γ (some (aI q.1)) q.2) S 110 [(0, aR 6), (1, aI v1)] [] := by
  unfold f_X6_compile_110 at hf
  refine z_iinc (j := 1) (v := (v1 + 1)) (lv' := [(1, aI (v1 + 1)), (0, aR 6)]) C d_X6_compile_110 rfl rfl (by decide) rfl ?_
  refine z_goto (tgt := 19) C d_X6_compile_113 (by decide) ?_
  exact z_sub [1, 0] rfl (hk19 _ _ hf)
def f_X6_compile_89 (k19 : Int32 → Mem → Option (Int32 × Mem)) (v1 : Int32) (S : Mem) : Option (Int32 × Mem) := ((f_X9_accept 59 S).bind fun q95 => (if q95.1 = 0 then ((f_X9_blameHere 0 q95.2).bind fun q106 => (if isB q106.1 = true then (some (q106.1, q106.2)) else none)) else (f_X6_compile_110 k19 v1 q95.2)))
set_option maxRecDepth 20000 in
theorem t_X6_compile_89 {X : MC} {Γ : GG} (C : CX X Γ cX6_compile 3 "TickPools$Script" 7 151) (hr : X.2.2.2.2.2.2.2.2.1.sig.returnType = some .boolean) {k19 : Int32 → Mem → Option (Int32 × Mem)} {q : Int32 × Mem} (hk19 : ∀ (v1 : Int32) (S : Mem), k19 v1 S = some q → ZZ X Γ 3 (QQ X Γ (some (aI q.1)) q.2) S 19 [(0, aR 6), (1, aI v1)] []) (v1 : Int32) (S : Mem) (hf : f_X6_compile_89 k19 v1 S = some q) : ZZ X Γ 3 (QQ X Γ (some (aI q.1)) q.2) S 89 [(0, aR 6), (1, aI v1)] [] := by
  unfold f_X6_compile_89 at hf
  refine z_aload_n (j := 0) C d_X6_compile_89 rfl ?_
  refine zg_X6_tape C rfl tw_359 d_X6_compile_90 ?_
  refine z_bipush (v := 59) C d_X6_compile_93 (by decide) ?_
  obtain ⟨q95, hF, hf⟩ := bd hf
  refine z_callV1 (rest := []) C [aI 59] rfl (by decide) rfl rfl k_X9_accept tw_750 ⟨by decide, by decide⟩ (Nat.le_of_ble_eq_true rfl) d_X6_compile_95 (c_X9_accept C.inj hF) rfl ?_
  refine z_if_ne (tgt := 110) C d_X6_compile_98 (by decide) hf (fun c98 hf => ?_) (fun c98 hf => ?_)
  · exact z_sub [0, 1] rfl (t_X6_compile_110 C hr hk19 _ _ hf)
  · refine z_aload_n (j := 0) C d_X6_compile_101 rfl ?_
    refine zg_X6_tape C rfl tw_359 d_X6_compile_102 ?_
    refine z_iconst (v := 0) C d_X6_compile_105 (by decide) ?_
    obtain ⟨q106, hF, hf⟩ := bd hf
    refine z_callV1 (rest := []) C [aI 0] rfl (by decide) rfl rfl k_X9_blameHere tw_749 ⟨by decide, by decide⟩ (Nat.le_of_ble_eq_true rfl) d_X6_compile_106 (c_X9_blameHere C.inj hF) rfl ?_
    obtain ⟨hb109_1, hf⟩ := gd hf
    exact r_i C hr (isB_nar hb109_1).1 d_X6_compile_109 hf
def f_X6_compile_65 (k19 : Int32 → Mem → Option (Int32 × Mem)) (v1 : Int32) (S : Mem) : Option (Int32 × Mem) := ((f_X6_closeBrackets S).bind fun q66 => (if (gI q66.2 6 4) = 0 then ((f_X9_peek q66.2).bind fun q80 => (if q80.1 = (-1) then (some (1, q80.2)) else (f_X6_compile_89 k19 v1 q80.2))) else (f_X6_compile_89 k19 v1 q66.2)))
set_option maxRecDepth 20000 in
theorem t_X6_compile_65 {X : MC} {Γ : GG} (C : CX X Γ cX6_compile 3 "TickPools$Script" 7 151) (hr : X.2.2.2.2.2.2.2.2.1.sig.returnType = some .boolean) {k19 : Int32 → Mem → Option (Int32 × Mem)} {q : Int32 × Mem} (hk19 : ∀ (v1 : Int32) (S : Mem), k19 v1 S = some q → ZZ X Γ 3 (QQ X Γ (some (aI q.1)) q.2) S 19 [(0, aR 6), (1, aI v1)] []) (v1 : Int32) (S : Mem) (hf : f_X6_compile_65 k19 v1 S = some q) : ZZ X Γ 3 (QQ X Γ (some (aI q.1)) q.2) S 65 [(0, aR 6), (1, aI v1)] [] := by
  unfold f_X6_compile_65 at hf
  refine z_aload_n (j := 0) C d_X6_compile_65 rfl ?_
  obtain ⟨q66, hF, hf⟩ := bd hf
  refine z_callV0 (rest := []) C [] rfl (by decide) rfl rfl k_X6_closeBrackets tw_751 ⟨by decide, by decide⟩ (Nat.le_of_ble_eq_true rfl) d_X6_compile_66 (c_X6_closeBrackets C.inj hF) rfl ?_
  refine z_aload_n (j := 0) C d_X6_compile_69 rfl ?_
  refine zg_X6_deep C rfl tw_362 d_X6_compile_70 ?_
  refine z_if_ne (tgt := 89) C d_X6_compile_73 (by decide) hf (fun c73 hf => ?_) (fun c73 hf => ?_)
  · exact z_sub [0, 1] rfl (t_X6_compile_89 C hr hk19 _ _ hf)
  · refine z_aload_n (j := 0) C d_X6_compile_76 rfl ?_
    refine zg_X6_tape C rfl tw_359 d_X6_compile_77 ?_
    obtain ⟨q80, hF, hf⟩ := bd hf
    refine z_callV1 (rest := []) C [] rfl (by decide) rfl rfl k_X9_peek tw_733 ⟨by decide, by decide⟩ (Nat.le_of_ble_eq_true rfl) d_X6_compile_80 (c_X9_peek C.inj hF) rfl ?_
    refine z_iconst (v := (-1)) C d_X6_compile_83 (by decide) ?_
    refine z_icmp_ne (tgt := 89) C d_X6_compile_84 (by decide) hf (fun c84 hf => ?_) (fun c84 hf => ?_)
    · exact z_sub [0, 1] rfl (t_X6_compile_89 C hr hk19 _ _ hf)
    · refine z_iconst (v := 1) C d_X6_compile_87 (by decide) ?_
      exact r_i C hr (by decide) d_X6_compile_88 hf
def f_X6_compile_19B (k19 : Int32 → Mem → Option (Int32 × Mem)) (v1 : Int32) (S : Mem) : Option (Int32 × Mem) := (if 40 < v1 then (some (0, S)) else ((f_X6_readStep S).bind fun q26 => (if q26.1 = 0 then (some (0, q26.2)) else ((f_X6_stepAt ((gI q26.2 6 0) - 1) q26.2).bind fun q41 => (if q41.1 = 0 then (f_X6_compile_65 k19 v1 q41.2) else (if kd q41.1 = (7, 10) then ((f_X8_hasBrackets q41.1 q41.2).bind fun q50 => (if q50.1 = 0 then (f_X6_compile_65 k19 v1 q50.2) else ((f_X6_openBracket q50.2).bind fun q57 => (if q57.1 = 0 then (some (0, q57.2)) else (f_X6_compile_110 k19 v1 q57.2))))) else none))))))
set_option maxRecDepth 20000 in
theorem t_X6_compile_19B {X : MC} {Γ : GG} (C : CX X Γ cX6_compile 3 "TickPools$Script" 7 151) (hr : X.2.2.2.2.2.2.2.2.1.sig.returnType = some .boolean) {k19 : Int32 → Mem → Option (Int32 × Mem)} {q : Int32 × Mem} (hk19 : ∀ (v1 : Int32) (S : Mem), k19 v1 S = some q → ZZ X Γ 3 (QQ X Γ (some (aI q.1)) q.2) S 19 [(0, aR 6), (1, aI v1)] []) (v1 : Int32) (S : Mem) (hf : f_X6_compile_19B k19 v1 S = some q) : ZZ X Γ 3 (QQ X Γ (some (aI q.1)) q.2) S 19 [(0, aR 6), (1, aI v1)] [] := by
  unfold f_X6_compile_19B at hf
  refine z_iload_n (j := 1) C d_X6_compile_19 rfl ?_
  refine z_bipush (v := 40) C d_X6_compile_20 (by decide) ?_
  refine z_icmp_gt (tgt := 116) C d_X6_compile_22 (by decide) hf (fun c22 hf => ?_) (fun c22 hf => ?_)
  · refine z_iconst (v := 0) C d_X6_compile_116 (by decide) ?_
    exact r_i C hr (by decide) d_X6_compile_117 hf
  · refine z_aload_n (j := 0) C d_X6_compile_25 rfl ?_
    obtain ⟨q26, hF, hf⟩ := bd hf
    refine z_callV1 (rest := []) C [] rfl (by decide) rfl rfl k_X6_readStep tw_692 ⟨by decide, by decide⟩ (Nat.le_of_ble_eq_true rfl) d_X6_compile_26 (c_X6_readStep C.inj hF) rfl ?_
    refine z_if_ne (tgt := 34) C d_X6_compile_29 (by decide) hf (fun c29 hf => ?_) (fun c29 hf => ?_)
    · refine z_aload_n (j := 0) C d_X6_compile_34 rfl ?_
      refine z_aload_n (j := 0) C d_X6_compile_35 rfl ?_
      refine zg_X6_size C rfl tw_357 d_X6_compile_36 ?_
      refine z_iconst (v := 1) C d_X6_compile_39 (by decide) ?_
      refine z_isub C d_X6_compile_40 ?_
      obtain ⟨q41, hF, hf⟩ := bd hf
      refine z_callV1 (rest := []) C [aI ((gI q26.2 6 0) - 1)] rfl (by decide) rfl rfl k_X6_stepAt tw_737 ⟨by decide, by decide⟩ (Nat.le_of_ble_eq_true rfl) d_X6_compile_41 (c_X6_stepAt C.inj hF) rfl ?_
      refine z_astore_n (lv' := [(2, aR q41.1), (0, aR 6), (1, aI v1)]) C d_X6_compile_44 (by decide) rfl ?_
      refine z_aload_n (j := 0) C d_X6_compile_45 rfl ?_
      refine z_ifnull (tgt := 65) C d_X6_compile_46 (by decide) hf (fun c46 hf => ?_) (fun c46 hf => ?_)
      · exact z_sub [1, 2] rfl (t_X6_compile_65 C hr hk19 _ _ hf)
      · refine z_aload_n (j := 0) C d_X6_compile_49 rfl ?_
        obtain ⟨hg50_0, hf⟩ := gd hf
        obtain ⟨q50, hF, hf⟩ := bd hf
        refine z_callV1 (rest := []) C [] hg50_0 (by decide) rfl rfl k_X8_hasBrackets tw_741 ⟨by decide, by decide⟩ (Nat.le_of_ble_eq_true rfl) d_X6_compile_50 (c_X8_hasBrackets C.inj hF) rfl ?_
        refine z_if_eq (tgt := 65) C d_X6_compile_53 (by decide) hf (fun c53 hf => ?_) (fun c53 hf => ?_)
        · exact z_sub [1, 2] rfl (t_X6_compile_65 C hr hk19 _ _ hf)
        · refine z_aload_n (j := 1) C d_X6_compile_56 rfl ?_
          obtain ⟨q57, hF, hf⟩ := bd hf
          refine z_callV1 (rest := []) C [] rfl (by decide) rfl rfl k_X6_openBracket tw_745 ⟨by decide, by decide⟩ (Nat.le_of_ble_eq_true rfl) d_X6_compile_57 (c_X6_openBracket C.inj hF) rfl ?_
          refine z_if_ne (tgt := 110) C d_X6_compile_60 (by decide) hf (fun c60 hf => ?_) (fun c60 hf => ?_)
          · exact z_sub [1, 2] rfl (t_X6_compile_110 C hr hk19 _ _ hf)
          · refine z_iconst (v := 0) C d_X6_compile_63 (by decide) ?_
            exact r_i C hr (by decide) d_X6_compile_64 hf
    · refine z_iconst (v := 0) C d_X6_compile_32 (by decide) ?_
      exact r_i C hr (by decide) d_X6_compile_33 hf
def f_X6_compile_19 : Nat → Int32 → Mem → Option (Int32 × Mem)
  | 0 => fun _ _ => none
  | n + 1 => f_X6_compile_19B (f_X6_compile_19 n)
theorem t_X6_compile_19 {X : MC} {Γ : GG} (C : CX X Γ cX6_compile 3 "TickPools$Script" 7 151) (hr : X.2.2.2.2.2.2.2.2.1.sig.returnType = some .boolean) {q : Int32 × Mem} : ∀ (n : Nat) (v1 : Int32) (S : Mem) (hf : f_X6_compile_19 n v1 S = some q), ZZ X Γ 3 (QQ X Γ (some (aI q.1)) q.2) S 19 [(0, aR 6), (1, aI v1)] []
  | 0, _, _, hf => nomatch (show (none : Option (Int32 × Mem)) = some q from hf)
  | n + 1, v1, S, hf => t_X6_compile_19B C hr (t_X6_compile_19 C hr n) v1 S hf
/-- TickPools$Script.compile()Z -/
def f_X6_compile (S : Mem) : Option (Int32 × Mem) := ((f_X9_rewind S).bind fun q4 => (f_X6_compile_19  100000 0 (sI (sI q4.2 6 0 0) 6 4 0)))
set_option maxRecDepth 20000 in
theorem c_X6_compile {l : Launch} {Γ : GG} (hI : Inj Γ) {S : Mem} {q : Int32 × Mem} (hf : f_X6_compile S = some q) : MM l Γ yX6_compile cX6_compile 3 (some .boolean) 7 151 [aR 6] S (some (aI q.1)) q.2 := by
  refine met_of hI "TickPools$Script" rfl (by decide +kernel) (Nat.le_of_ble_eq_true rfl) (fun X hX C hr => ?_)
  unfold f_X6_compile at hf
  show ZZ X Γ 3 _ S 0 [(0, aR 6)] []
  refine z_aload_n (j := 0) C d_X6_compile_0 rfl ?_
  refine zg_X6_tape C rfl tw_359 d_X6_compile_1 ?_
  obtain ⟨q4, hF, hf⟩ := bd hf
  refine z_callV0 (rest := []) C [] rfl (by decide) rfl rfl k_X9_rewind tw_691 ⟨by decide, by decide⟩ (Nat.le_of_ble_eq_true rfl) d_X6_compile_4 (c_X9_rewind C.inj hF) rfl ?_
  refine z_aload_n (j := 0) C d_X6_compile_7 rfl ?_
  refine z_iconst (v := 0) C d_X6_compile_8 (by decide) ?_
  refine zp_X6_size C rfl tw_357 d_X6_compile_9 ?_
  refine z_aload_n (j := 0) C d_X6_compile_12 rfl ?_
  refine z_iconst (v := 0) C d_X6_compile_13 (by decide) ?_
  refine zp_X6_deep C rfl tw_362 d_X6_compile_14 ?_
  refine z_iconst (v := 0) C d_X6_compile_17 (by decide) ?_
  refine z_istore_n (lv' := [(1, aI 0), (0, aR 6)]) C d_X6_compile_18 (by decide) rfl ?_
  exact z_sub [1, 0] rfl (t_X6_compile_19 C hr  100000 _ _ hf)
theorem d_X9_hasRoom_0 : decode cX9_hasRoom 0 = .ok (.aload_n 0, 1) := by decide +kernel
theorem d_X9_hasRoom_1 : decode cX9_hasRoom 1 = .ok (.getfield 15, 3) := by decide +kernel
theorem d_X9_hasRoom_4 : decode cX9_hasRoom 4 = .ok (.bipush 20, 2) := by decide +kernel
theorem d_X9_hasRoom_6 : decode cX9_hasRoom 6 = .ok (.iadd, 1) := by decide +kernel
theorem d_X9_hasRoom_7 : decode cX9_hasRoom 7 = .ok (.aload_n 0, 1) := by decide +kernel
theorem d_X9_hasRoom_8 : decode cX9_hasRoom 8 = .ok (.getfield 9, 3) := by decide +kernel
theorem d_X9_hasRoom_11 : decode cX9_hasRoom 11 = .ok (.arraylength, 1) := by decide +kernel
theorem d_X9_hasRoom_12 : decode cX9_hasRoom 12 = .ok (.if_icmp .gt 7, 3) := by decide +kernel
theorem d_X9_hasRoom_15 : decode cX9_hasRoom 15 = .ok (.iconst 1, 1) := by decide +kernel
theorem d_X9_hasRoom_16 : decode cX9_hasRoom 16 = .ok (.goto 4, 3) := by decide +kernel
theorem d_X9_hasRoom_19 : decode cX9_hasRoom 19 = .ok (.iconst 0, 1) := by decide +kernel
theorem d_X9_hasRoom_20 : decode cX9_hasRoom 20 = .ok (.ireturn, 1) := by decide +kernel
def f_X9_hasRoom_20 (s0 : Int32) (S : Mem) : Option (Int32 × Mem) := (if isB s0 = true then (some (s0, S)) else none)
set_option maxRecDepth 20000 in
theorem t_X9_hasRoom_20 {X : MC} {Γ : GG} (C : CX X Γ cX9_hasRoom 1 "TickPools$Tape" 0 0) (hr : X.2.2.2.2.2.2.2.2.1.sig.returnType = some .boolean) {q : Int32 × Mem} (s0 : Int32) (S : Mem) (hf : f_X9_hasRoom_20 s0 S = some q) : ZZ X Γ 1 (QQ X Γ (some (aI q.1)) q.2) S 20 [] [aI s0] := by
  unfold f_X9_hasRoom_20 at hf
  obtain ⟨hb20_0, hf⟩ := gd hf
  exact r_i C hr (isB_nar hb20_0).1 d_X9_hasRoom_20 hf
/-- TickPools$Tape.hasRoom()Z -/
def f_X9_hasRoom (S : Mem) : Option (Int32 × Mem) := (if 400 < ((gI S 2 0) + 20) then (f_X9_hasRoom_20  0 S) else (f_X9_hasRoom_20  1 S))
set_option maxRecDepth 20000 in
theorem c_X9_hasRoom {l : Launch} {Γ : GG} (hI : Inj Γ) {S : Mem} {q : Int32 × Mem} (hf : f_X9_hasRoom S = some q) : MM l Γ yX9_hasRoom cX9_hasRoom 1 (some .boolean) 0 0 [aR 2] S (some (aI q.1)) q.2 := by
  refine met_of hI "TickPools$Tape" rfl (by decide +kernel) (Nat.le_of_ble_eq_true rfl) (fun X hX C hr => ?_)
  unfold f_X9_hasRoom at hf
  show ZZ X Γ 1 _ S 0 [(0, aR 2)] []
  refine z_aload_n (j := 0) C d_X9_hasRoom_0 rfl ?_
  refine zg_X9_length C rfl tw_33 d_X9_hasRoom_1 ?_
  refine z_bipush (v := 20) C d_X9_hasRoom_4 (by decide) ?_
  refine z_iadd C d_X9_hasRoom_6 ?_
  refine z_aload_n (j := 0) C d_X9_hasRoom_7 rfl ?_
  refine zg_X9_bytes C rfl tw_44 d_X9_hasRoom_8 ?_
  refine z_alen (v := 400) C rfl (by decide) (by decide) d_X9_hasRoom_11 ?_
  refine z_icmp_gt (tgt := 19) C d_X9_hasRoom_12 (by decide) hf (fun c12 hf => ?_) (fun c12 hf => ?_)
  · refine z_iconst (v := 0) C d_X9_hasRoom_19 (by decide) ?_
    exact z_sub [] rfl (t_X9_hasRoom_20 C hr  _ _ hf)
  · refine z_iconst (v := 1) C d_X9_hasRoom_15 (by decide) ?_
    refine z_goto (tgt := 20) C d_X9_hasRoom_16 (by decide) ?_
    exact z_sub [] rfl (t_X9_hasRoom_20 C hr  _ _ hf)
theorem d_X9_append_0 : decode cX9_append 0 = .ok (.bipush 24, 2) := by decide +kernel
theorem d_X9_append_2 : decode cX9_append 2 = .ok (.istore_n 2, 1) := by decide +kernel
theorem d_X9_append_3 : decode cX9_append 3 = .ok (.iload_n 2, 1) := by decide +kernel
theorem d_X9_append_4 : decode cX9_append 4 = .ok (.ifCond .lt 44, 3) := by decide +kernel
theorem d_X9_append_7 : decode cX9_append 7 = .ok (.aload_n 0, 1) := by decide +kernel
theorem d_X9_append_8 : decode cX9_append 8 = .ok (.getfield 15, 3) := by decide +kernel
theorem d_X9_append_11 : decode cX9_append 11 = .ok (.aload_n 0, 1) := by decide +kernel
theorem d_X9_append_12 : decode cX9_append 12 = .ok (.getfield 9, 3) := by decide +kernel
theorem d_X9_append_15 : decode cX9_append 15 = .ok (.arraylength, 1) := by decide +kernel
theorem d_X9_append_16 : decode cX9_append 16 = .ok (.if_icmp .ge 32, 3) := by decide +kernel
theorem d_X9_append_19 : decode cX9_append 19 = .ok (.aload_n 0, 1) := by decide +kernel
theorem d_X9_append_20 : decode cX9_append 20 = .ok (.getfield 9, 3) := by decide +kernel
theorem d_X9_append_23 : decode cX9_append 23 = .ok (.aload_n 0, 1) := by decide +kernel
theorem d_X9_append_24 : decode cX9_append 24 = .ok (.getfield 15, 3) := by decide +kernel
theorem d_X9_append_27 : decode cX9_append 27 = .ok (.iload_n 1, 1) := by decide +kernel
theorem d_X9_append_28 : decode cX9_append 28 = .ok (.iload_n 2, 1) := by decide +kernel
theorem d_X9_append_29 : decode cX9_append 29 = .ok (.ishr, 1) := by decide +kernel
theorem d_X9_append_30 : decode cX9_append 30 = .ok (.i2b, 1) := by decide +kernel
theorem d_X9_append_31 : decode cX9_append 31 = .ok (.bastore, 1) := by decide +kernel
theorem d_X9_append_32 : decode cX9_append 32 = .ok (.aload_n 0, 1) := by decide +kernel
theorem d_X9_append_33 : decode cX9_append 33 = .ok (.dup, 1) := by decide +kernel
theorem d_X9_append_34 : decode cX9_append 34 = .ok (.getfield 15, 3) := by decide +kernel
theorem d_X9_append_37 : decode cX9_append 37 = .ok (.iconst 1, 1) := by decide +kernel
theorem d_X9_append_38 : decode cX9_append 38 = .ok (.iadd, 1) := by decide +kernel
theorem d_X9_append_39 : decode cX9_append 39 = .ok (.putfield 15, 3) := by decide +kernel
theorem d_X9_append_42 : decode cX9_append 42 = .ok (.iinc 2 (-8), 3) := by decide +kernel
theorem d_X9_append_45 : decode cX9_append 45 = .ok (.goto (-42), 3) := by decide +kernel
theorem d_X9_append_48 : decode cX9_append 48 = .ok (.return_, 1) := by decide +kernel
def f_X9_append_48 (S : Mem) : Option (Unit × Mem) := (some ((), S))
set_option maxRecDepth 20000 in
theorem t_X9_append_48 {X : MC} {Γ : GG} (C : CX X Γ cX9_append 3 "TickPools$Tape" 0 0) (hr : X.2.2.2.2.2.2.2.2.1.sig.returnType = none) {q : Unit × Mem} (S : Mem) (hf : f_X9_append_48 S = some q) : ZZ X Γ 3 (QQ X Γ none q.2) S 48 [] [] := by
  unfold f_X9_append_48 at hf
  exact r_v C hr d_X9_append_48 hf
def f_X9_append_3B (k3 : Int32 → Int32 → Mem → Option (Unit × Mem)) (v1 : Int32) (v2 : Int32) (S : Mem) : Option (Unit × Mem) := (if v2 < 0 then (f_X9_append_48  S) else (if 400 ≤ (gI S 2 0) then (f_X9_append_48  S) else (if inb (gI S 2 0) 400 = true then (k3 v1 (v2 + (-8)) (sI (sI S 3 (((gI S 2 0) : Int32).toNatClampNeg) (((((v1 >>> (v2 &&& 31)) : Int32).toInt8.toInt32) : Int32).toInt8.toInt32)) 2 0 ((gI (sI S 3 (((gI S 2 0) : Int32).toNatClampNeg) (((((v1 >>> (v2 &&& 31)) : Int32).toInt8.toInt32) : Int32).toInt8.toInt32)) 2 0) + 1))) else none)))
set_option maxRecDepth 20000 in
theorem t_X9_append_3B {X : MC} {Γ : GG} (C : CX X Γ cX9_append 3 "TickPools$Tape" 0 0) (hr : X.2.2.2.2.2.2.2.2.1.sig.returnType = none) {k3 : Int32 → Int32 → Mem → Option (Unit × Mem)} {q : Unit × Mem} (hk3 : ∀ (v1 : Int32) (v2 : Int32) (S : Mem), k3 v1 v2 S = some q → ZZ X Γ 3 (QQ X Γ none q.2) S 3 [(0, aR 2), (1, aI v1), (2, aI v2)] []) (v1 : Int32) (v2 : Int32) (S : Mem) (hf : f_X9_append_3B k3 v1 v2 S = some q) : ZZ X Γ 3 (QQ X Γ none q.2) S 3 [(0, aR 2), (1, aI v1), (2, aI v2)] [] := by
  unfold f_X9_append_3B at hf
  refine z_iload_n (j := 2) C d_X9_append_3 rfl ?_
  refine z_if_lt (tgt := 48) C d_X9_append_4 (by decide) hf (fun c4 hf => ?_) (fun c4 hf => ?_)
  · exact z_sub [] rfl (t_X9_append_48 C hr  _ hf)
  · refine z_aload_n (j := 0) C d_X9_append_7 rfl ?_
    refine zg_X9_length C rfl tw_33 d_X9_append_8 ?_
    refine z_aload_n (j := 0) C d_X9_append_11 rfl ?_
    refine zg_X9_bytes C rfl tw_44 d_X9_append_12 ?_
    refine z_alen (v := 400) C rfl (by decide) (by decide) d_X9_append_15 ?_
    refine z_icmp_ge (tgt := 48) C d_X9_append_16 (by decide) hf (fun c16 hf => ?_) (fun c16 hf => ?_)
    · exact z_sub [] rfl (t_X9_append_48 C hr  _ hf)
    · refine z_aload_n (j := 0) C d_X9_append_19 rfl ?_
      refine zg_X9_bytes C rfl tw_44 d_X9_append_20 ?_
      refine z_aload_n (j := 0) C d_X9_append_23 rfl ?_
      refine zg_X9_length C rfl tw_33 d_X9_append_24 ?_
      refine z_iload_n (j := 1) C d_X9_append_27 rfl ?_
      refine z_iload_n (j := 2) C d_X9_append_28 rfl ?_
      refine z_ishr C d_X9_append_29 ?_
      refine z_i2b C d_X9_append_30 ?_
      obtain ⟨hi31_0, hf⟩ := gd hf
      refine z_bast C rfl hi31_0 d_X9_append_31 ?_
      refine z_aload_n (j := 0) C d_X9_append_32 rfl ?_
      refine z_dup C d_X9_append_33 rfl ?_
      refine zg_X9_length C rfl tw_33 d_X9_append_34 ?_
      refine z_iconst (v := 1) C d_X9_append_37 (by decide) ?_
      refine z_iadd C d_X9_append_38 ?_
      refine zp_X9_length C rfl tw_33 d_X9_append_39 ?_
      refine z_iinc (j := 2) (v := (v2 + (-8))) (lv' := [(2, aI (v2 + (-8))), (0, aR 2), (1, aI v1)]) C d_X9_append_42 rfl rfl (by decide) rfl ?_
      refine z_goto (tgt := 3) C d_X9_append_45 (by decide) ?_
      exact z_sub [1, 2, 0] rfl (hk3 _ _ _ hf)
def f_X9_append_3 : Nat → Int32 → Int32 → Mem → Option (Unit × Mem)
  | 0 => fun _ _ _ => none
  | n + 1 => f_X9_append_3B (f_X9_append_3 n)
theorem t_X9_append_3 {X : MC} {Γ : GG} (C : CX X Γ cX9_append 3 "TickPools$Tape" 0 0) (hr : X.2.2.2.2.2.2.2.2.1.sig.returnType = none) {q : Unit × Mem} : ∀ (n : Nat) (v1 : Int32) (v2 : Int32) (S : Mem) (hf : f_X9_append_3 n v1 v2 S = some q), ZZ X Γ 3 (QQ X Γ none q.2) S 3 [(0, aR 2), (1, aI v1), (2, aI v2)] []
  | 0, _, _, _, hf => nomatch (show (none : Option (Unit × Mem)) = some q from hf)
  | n + 1, v1, v2, S, hf => t_X9_append_3B C hr (t_X9_append_3 C hr n) v1 v2 S hf
/-- TickPools$Tape.append(I)V -/
def f_X9_append (p1 : Int32) (S : Mem) : Option (Unit × Mem) := (f_X9_append_3  100000 p1 24 S)
set_option maxRecDepth 20000 in
theorem c_X9_append {l : Launch} {Γ : GG} (hI : Inj Γ) {p1 : Int32} {S : Mem} {q : Unit × Mem} (hf : f_X9_append p1 S = some q) : MM l Γ yX9_append cX9_append 3 (none) 0 0 [aR 2, aI p1] S none q.2 := by
  refine met_of hI "TickPools$Tape" rfl (by decide +kernel) (Nat.le_of_ble_eq_true rfl) (fun X hX C hr => ?_)
  unfold f_X9_append at hf
  show ZZ X Γ 3 _ S 0 [(0, aR 2), (1, aI p1)] []
  refine z_bipush (v := 24) C d_X9_append_0 (by decide) ?_
  refine z_istore_n (lv' := [(2, aI 24), (0, aR 2), (1, aI p1)]) C d_X9_append_2 (by decide) rfl ?_
  exact z_sub [1, 2, 0] rfl (t_X9_append_3 C hr  100000 _ _ _ hf)
theorem d_X11_feed_0 : decode cX11_feed 0 = .ok (.aload_n 0, 1) := by decide +kernel
theorem d_X11_feed_1 : decode cX11_feed 1 = .ok (.getfield 10, 3) := by decide +kernel
theorem d_X11_feed_4 : decode cX11_feed 4 = .ok (.invokevirtual 69, 3) := by decide +kernel
theorem d_X11_feed_7 : decode cX11_feed 7 = .ok (.ifCond .ne 5, 3) := by decide +kernel
theorem d_X11_feed_10 : decode cX11_feed 10 = .ok (.iconst (-1), 1) := by decide +kernel
theorem d_X11_feed_11 : decode cX11_feed 11 = .ok (.ireturn, 1) := by decide +kernel
theorem d_X11_feed_12 : decode cX11_feed 12 = .ok (.aload_n 0, 1) := by decide +kernel
theorem d_X11_feed_13 : decode cX11_feed 13 = .ok (.getfield 10, 3) := by decide +kernel
theorem d_X11_feed_16 : decode cX11_feed 16 = .ok (.iload_n 1, 1) := by decide +kernel
theorem d_X11_feed_17 : decode cX11_feed 17 = .ok (.invokevirtual 73, 3) := by decide +kernel
theorem d_X11_feed_20 : decode cX11_feed 20 = .ok (.aload_n 0, 1) := by decide +kernel
theorem d_X11_feed_21 : decode cX11_feed 21 = .ok (.getfield 10, 3) := by decide +kernel
theorem d_X11_feed_24 : decode cX11_feed 24 = .ok (.iload_n 2, 1) := by decide +kernel
theorem d_X11_feed_25 : decode cX11_feed 25 = .ok (.invokevirtual 73, 3) := by decide +kernel
theorem d_X11_feed_28 : decode cX11_feed 28 = .ok (.aload_n 0, 1) := by decide +kernel
theorem d_X11_feed_29 : decode cX11_feed 29 = .ok (.getfield 10, 3) := by decide +kernel
theorem d_X11_feed_32 : decode cX11_feed 32 = .ok (.iload_n 3, 1) := by decide +kernel
theorem d_X11_feed_33 : decode cX11_feed 33 = .ok (.invokevirtual 73, 3) := by decide +kernel
theorem d_X11_feed_36 : decode cX11_feed 36 = .ok (.aload_n 0, 1) := by decide +kernel
theorem d_X11_feed_37 : decode cX11_feed 37 = .ok (.getfield 10, 3) := by decide +kernel
theorem d_X11_feed_40 : decode cX11_feed 40 = .ok (.iload 4, 2) := by decide +kernel
theorem d_X11_feed_42 : decode cX11_feed 42 = .ok (.invokevirtual 73, 3) := by decide +kernel
theorem d_X11_feed_45 : decode cX11_feed 45 = .ok (.aload_n 0, 1) := by decide +kernel
theorem d_X11_feed_46 : decode cX11_feed 46 = .ok (.getfield 10, 3) := by decide +kernel
theorem d_X11_feed_49 : decode cX11_feed 49 = .ok (.iload 5, 2) := by decide +kernel
theorem d_X11_feed_51 : decode cX11_feed 51 = .ok (.invokevirtual 73, 3) := by decide +kernel
theorem d_X11_feed_54 : decode cX11_feed 54 = .ok (.aload_n 0, 1) := by decide +kernel
theorem d_X11_feed_55 : decode cX11_feed 55 = .ok (.getfield 10, 3) := by decide +kernel
theorem d_X11_feed_58 : decode cX11_feed 58 = .ok (.getfield 77, 3) := by decide +kernel
theorem d_X11_feed_61 : decode cX11_feed 61 = .ok (.ireturn, 1) := by decide +kernel
/-- TickPools.feed(IIIII)I -/
def f_X11_feed (p1 : Int32) (p2 : Int32) (p3 : Int32) (p4 : Int32) (p5 : Int32) (S : Mem) : Option (Int32 × Mem) := ((f_X9_hasRoom S).bind fun q4 => (if q4.1 = 0 then (some ((-1), q4.2)) else ((f_X9_append p1 q4.2).bind fun q17 => ((f_X9_append p2 q17.2).bind fun q25 => ((f_X9_append p3 q25.2).bind fun q33 => ((f_X9_append p4 q33.2).bind fun q42 => ((f_X9_append p5 q42.2).bind fun q51 => (some ((gI q51.2 2 0), q51.2)))))))))
set_option maxRecDepth 20000 in
theorem c_X11_feed {l : Launch} {Γ : GG} (hI : Inj Γ) {p1 : Int32} {p2 : Int32} {p3 : Int32} {p4 : Int32} {p5 : Int32} {S : Mem} {q : Int32 × Mem} (hf : f_X11_feed p1 p2 p3 p4 p5 S = some q) : MM l Γ yX11_feed cX11_feed 6 (some .int) 1 22 [aR 1, aI p1, aI p2, aI p3, aI p4, aI p5] S (some (aI q.1)) q.2 := by
  refine met_of hI "TickPools" rfl (by decide +kernel) (Nat.le_of_ble_eq_true rfl) (fun X hX C hr => ?_)
  unfold f_X11_feed at hf
  show ZZ X Γ 6 _ S 0 [(0, aR 1), (1, aI p1), (2, aI p2), (3, aI p3), (4, aI p4), (5, aI p5)] []
  refine z_aload_n (j := 0) C d_X11_feed_0 rfl ?_
  refine zg_X11_tape C rfl tw_460 d_X11_feed_1 ?_
  obtain ⟨q4, hF, hf⟩ := bd hf
  refine z_callV1 (rest := []) C [] rfl (by decide) rfl rfl k_X9_hasRoom tw_489 ⟨by decide, by decide⟩ (Nat.le_of_ble_eq_true rfl) d_X11_feed_4 (c_X9_hasRoom C.inj hF) rfl ?_
  refine z_if_ne (tgt := 12) C d_X11_feed_7 (by decide) hf (fun c7 hf => ?_) (fun c7 hf => ?_)
  · refine z_aload_n (j := 0) C d_X11_feed_12 rfl ?_
    refine zg_X11_tape C rfl tw_460 d_X11_feed_13 ?_
    refine z_iload_n (j := 1) C d_X11_feed_16 rfl ?_
    obtain ⟨q17, hF, hf⟩ := bd hf
    refine z_callV0 (rest := []) C [aI p1] rfl (by decide) rfl rfl k_X9_append tw_493 ⟨by decide, by decide⟩ (Nat.le_of_ble_eq_true rfl) d_X11_feed_17 (c_X9_append C.inj hF) rfl ?_
    refine z_aload_n (j := 0) C d_X11_feed_20 rfl ?_
    refine zg_X11_tape C rfl tw_460 d_X11_feed_21 ?_
    refine z_iload_n (j := 2) C d_X11_feed_24 rfl ?_
    obtain ⟨q25, hF, hf⟩ := bd hf
    refine z_callV0 (rest := []) C [aI p2] rfl (by decide) rfl rfl k_X9_append tw_493 ⟨by decide, by decide⟩ (Nat.le_of_ble_eq_true rfl) d_X11_feed_25 (c_X9_append C.inj hF) rfl ?_
    refine z_aload_n (j := 0) C d_X11_feed_28 rfl ?_
    refine zg_X11_tape C rfl tw_460 d_X11_feed_29 ?_
    refine z_iload_n (j := 3) C d_X11_feed_32 rfl ?_
    obtain ⟨q33, hF, hf⟩ := bd hf
    refine z_callV0 (rest := []) C [aI p3] rfl (by decide) rfl rfl k_X9_append tw_493 ⟨by decide, by decide⟩ (Nat.le_of_ble_eq_true rfl) d_X11_feed_33 (c_X9_append C.inj hF) rfl ?_
    refine z_aload_n (j := 0) C d_X11_feed_36 rfl ?_
    refine zg_X11_tape C rfl tw_460 d_X11_feed_37 ?_
    refine z_iload (j := 4) C d_X11_feed_40 rfl ?_
    obtain ⟨q42, hF, hf⟩ := bd hf
    refine z_callV0 (rest := []) C [aI p4] rfl (by decide) rfl rfl k_X9_append tw_493 ⟨by decide, by decide⟩ (Nat.le_of_ble_eq_true rfl) d_X11_feed_42 (c_X9_append C.inj hF) rfl ?_
    refine z_aload_n (j := 0) C d_X11_feed_45 rfl ?_
    refine zg_X11_tape C rfl tw_460 d_X11_feed_46 ?_
    refine z_iload (j := 5) C d_X11_feed_49 rfl ?_
    obtain ⟨q51, hF, hf⟩ := bd hf
    refine z_callV0 (rest := []) C [aI p5] rfl (by decide) rfl rfl k_X9_append tw_493 ⟨by decide, by decide⟩ (Nat.le_of_ble_eq_true rfl) d_X11_feed_51 (c_X9_append C.inj hF) rfl ?_
    refine z_aload_n (j := 0) C d_X11_feed_54 rfl ?_
    refine zg_X11_tape C rfl tw_460 d_X11_feed_55 ?_
    refine zg_X9_length C rfl tw_34 d_X11_feed_58 ?_
    exact r_i C hr rfl d_X11_feed_61 hf
  · refine z_iconst (v := (-1)) C d_X11_feed_10 (by decide) ?_
    exact r_i C hr rfl d_X11_feed_11 hf
theorem d_X11_end_0 : decode cX11_end 0 = .ok (.iload_n 1, 1) := by decide +kernel
theorem d_X11_end_1 : decode cX11_end 1 = .ok (.ifCond .lt 14, 3) := by decide +kernel
theorem d_X11_end_4 : decode cX11_end 4 = .ok (.iload_n 1, 1) := by decide +kernel
theorem d_X11_end_5 : decode cX11_end 5 = .ok (.aload_n 0, 1) := by decide +kernel
theorem d_X11_end_6 : decode cX11_end 6 = .ok (.getfield 10, 3) := by decide +kernel
theorem d_X11_end_9 : decode cX11_end 9 = .ok (.getfield 77, 3) := by decide +kernel
theorem d_X11_end_12 : decode cX11_end 12 = .ok (.if_icmp .le 5, 3) := by decide +kernel
theorem d_X11_end_15 : decode cX11_end 15 = .ok (.iconst (-1), 1) := by decide +kernel
theorem d_X11_end_16 : decode cX11_end 16 = .ok (.ireturn, 1) := by decide +kernel
theorem d_X11_end_17 : decode cX11_end 17 = .ok (.aload_n 0, 1) := by decide +kernel
theorem d_X11_end_18 : decode cX11_end 18 = .ok (.getfield 10, 3) := by decide +kernel
theorem d_X11_end_21 : decode cX11_end 21 = .ok (.iload_n 1, 1) := by decide +kernel
theorem d_X11_end_22 : decode cX11_end 22 = .ok (.putfield 77, 3) := by decide +kernel
theorem d_X11_end_25 : decode cX11_end 25 = .ok (.iload_n 1, 1) := by decide +kernel
theorem d_X11_end_26 : decode cX11_end 26 = .ok (.ireturn, 1) := by decide +kernel
def f_X11_end_15 (S : Mem) : Option (Int32 × Mem) := (some ((-1), S))
set_option maxRecDepth 20000 in
theorem t_X11_end_15 {X : MC} {Γ : GG} (C : CX X Γ cX11_end 2 "TickPools" 0 0) (hr : X.2.2.2.2.2.2.2.2.1.sig.returnType = some .int) {q : Int32 × Mem} (S : Mem) (hf : f_X11_end_15 S = some q) : ZZ X Γ 2 (QQ X Γ (some (aI q.1)) q.2) S 15 [] [] := by
  unfold f_X11_end_15 at hf
  refine z_iconst (v := (-1)) C d_X11_end_15 (by decide) ?_
  exact r_i C hr rfl d_X11_end_16 hf
/-- TickPools.end(I)I -/
def f_X11_end (p1 : Int32) (S : Mem) : Option (Int32 × Mem) := (if p1 < 0 then (f_X11_end_15  S) else (if p1 ≤ (gI S 2 0) then (some (p1, (sI S 2 0 p1))) else (f_X11_end_15  S)))
set_option maxRecDepth 20000 in
theorem c_X11_end {l : Launch} {Γ : GG} (hI : Inj Γ) {p1 : Int32} {S : Mem} {q : Int32 × Mem} (hf : f_X11_end p1 S = some q) : MM l Γ yX11_end cX11_end 2 (some .int) 0 0 [aR 1, aI p1] S (some (aI q.1)) q.2 := by
  refine met_of hI "TickPools" rfl (by decide +kernel) (Nat.le_of_ble_eq_true rfl) (fun X hX C hr => ?_)
  unfold f_X11_end at hf
  show ZZ X Γ 2 _ S 0 [(0, aR 1), (1, aI p1)] []
  refine z_iload_n (j := 1) C d_X11_end_0 rfl ?_
  refine z_if_lt (tgt := 15) C d_X11_end_1 (by decide) hf (fun c1 hf => ?_) (fun c1 hf => ?_)
  · exact z_sub [] rfl (t_X11_end_15 C hr  _ hf)
  · refine z_iload_n (j := 1) C d_X11_end_4 rfl ?_
    refine z_aload_n (j := 0) C d_X11_end_5 rfl ?_
    refine zg_X11_tape C rfl tw_460 d_X11_end_6 ?_
    refine zg_X9_length C rfl tw_34 d_X11_end_9 ?_
    refine z_icmp_le (tgt := 17) C d_X11_end_12 (by decide) hf (fun c12 hf => ?_) (fun c12 hf => ?_)
    · refine z_aload_n (j := 0) C d_X11_end_17 rfl ?_
      refine zg_X11_tape C rfl tw_460 d_X11_end_18 ?_
      refine z_iload_n (j := 1) C d_X11_end_21 rfl ?_
      refine zp_X9_length C rfl tw_34 d_X11_end_22 ?_
      refine z_iload_n (j := 1) C d_X11_end_25 rfl ?_
      exact r_i C hr rfl d_X11_end_26 hf
    · exact z_sub [] rfl (t_X11_end_15 C hr  _ hf)
theorem d_X11_market_0 : decode cX11_market 0 = .ok (.aload_n 0, 1) := by decide +kernel
theorem d_X11_market_1 : decode cX11_market 1 = .ok (.getfield 38, 3) := by decide +kernel
theorem d_X11_market_4 : decode cX11_market 4 = .ok (.invokevirtual 81, 3) := by decide +kernel
theorem d_X11_market_7 : decode cX11_market 7 = .ok (.istore_n 1, 1) := by decide +kernel
theorem d_X11_market_8 : decode cX11_market 8 = .ok (.aload_n 0, 1) := by decide +kernel
theorem d_X11_market_9 : decode cX11_market 9 = .ok (.getfield 10, 3) := by decide +kernel
theorem d_X11_market_12 : decode cX11_market 12 = .ok (.iconst 0, 1) := by decide +kernel
theorem d_X11_market_13 : decode cX11_market 13 = .ok (.putfield 77, 3) := by decide +kernel
theorem d_X11_market_16 : decode cX11_market 16 = .ok (.iload_n 1, 1) := by decide +kernel
theorem d_X11_market_17 : decode cX11_market 17 = .ok (.ifCond .ne 14, 3) := by decide +kernel
theorem d_X11_market_20 : decode cX11_market 20 = .ok (.bipush (-2), 2) := by decide +kernel
theorem d_X11_market_22 : decode cX11_market 22 = .ok (.aload_n 0, 1) := by decide +kernel
theorem d_X11_market_23 : decode cX11_market 23 = .ok (.getfield 10, 3) := by decide +kernel
theorem d_X11_market_26 : decode cX11_market 26 = .ok (.getfield 84, 3) := by decide +kernel
theorem d_X11_market_29 : decode cX11_market 29 = .ok (.isub, 1) := by decide +kernel
theorem d_X11_market_30 : decode cX11_market 30 = .ok (.ireturn, 1) := by decide +kernel
theorem d_X11_market_31 : decode cX11_market 31 = .ok (.aload_n 0, 1) := by decide +kernel
theorem d_X11_market_32 : decode cX11_market 32 = .ok (.getfield 19, 3) := by decide +kernel
theorem d_X11_market_35 : decode cX11_market 35 = .ok (.aload_n 0, 1) := by decide +kernel
theorem d_X11_market_36 : decode cX11_market 36 = .ok (.getfield 23, 3) := by decide +kernel
theorem d_X11_market_39 : decode cX11_market 39 = .ok (.invokevirtual 87, 3) := by decide +kernel
theorem d_X11_market_42 : decode cX11_market 42 = .ok (.aload_n 0, 1) := by decide +kernel
theorem d_X11_market_43 : decode cX11_market 43 = .ok (.getfield 19, 3) := by decide +kernel
theorem d_X11_market_46 : decode cX11_market 46 = .ok (.getfield 91, 3) := by decide +kernel
theorem d_X11_market_49 : decode cX11_market 49 = .ok (.ireturn, 1) := by decide +kernel
/-- TickPools.market()I -/
def f_X11_market (S : Mem) : Option (Int32 × Mem) := ((f_X3_read S).bind fun q4 => (if q4.1 = 0 then (some (((-2) - (gI (sI q4.2 2 0 0) 2 1)), (sI q4.2 2 0 0))) else ((f_X2_copyFrom 78 143 (sI q4.2 2 0 0)).bind fun q39 => (some ((gI q39.2 78 2), q39.2)))))
set_option maxRecDepth 20000 in
theorem c_X11_market {l : Launch} {Γ : GG} (hI : Inj Γ) {S : Mem} {q : Int32 × Mem} (hf : f_X11_market S = some q) : MM l Γ yX11_market cX11_market 2 (some .int) 7 155 [aR 1] S (some (aI q.1)) q.2 := by
  refine met_of hI "TickPools" rfl (by decide +kernel) (Nat.le_of_ble_eq_true rfl) (fun X hX C hr => ?_)
  unfold f_X11_market at hf
  show ZZ X Γ 2 _ S 0 [(0, aR 1)] []
  refine z_aload_n (j := 0) C d_X11_market_0 rfl ?_
  refine zg_X11_marketReader C rfl tw_463 d_X11_market_1 ?_
  obtain ⟨q4, hF, hf⟩ := bd hf
  refine z_callV1 (rest := []) C [] rfl (by decide) rfl rfl k_X3_read tw_505 ⟨by decide, by decide⟩ (Nat.le_of_ble_eq_true rfl) d_X11_market_4 (c_X3_read C.inj hF) rfl ?_
  refine z_istore_n (lv' := [(1, aI q4.1), (0, aR 1)]) C d_X11_market_7 (by decide) rfl ?_
  refine z_aload_n (j := 1) C d_X11_market_8 rfl ?_
  refine zg_X11_tape C rfl tw_460 d_X11_market_9 ?_
  refine z_iconst (v := 0) C d_X11_market_12 (by decide) ?_
  refine zp_X9_length C rfl tw_34 d_X11_market_13 ?_
  refine z_iload_n (j := 0) C d_X11_market_16 rfl ?_
  refine z_if_ne (tgt := 31) C d_X11_market_17 (by decide) hf (fun c17 hf => ?_) (fun c17 hf => ?_)
  · refine z_aload_n (j := 1) C d_X11_market_31 rfl ?_
    refine zg_X11_live C rfl tw_461 d_X11_market_32 ?_
    refine z_aload_n (j := 1) C d_X11_market_35 rfl ?_
    refine zg_X11_spare C rfl tw_462 d_X11_market_36 ?_
    obtain ⟨q39, hF, hf⟩ := bd hf
    refine z_callV0 (rest := []) C [aR 143] rfl (by decide) rfl rfl k_X2_copyFrom tw_659 ⟨by decide, by decide⟩ (Nat.le_of_ble_eq_true rfl) d_X11_market_39 (c_X2_copyFrom C.inj hF) rfl ?_
    refine z_aload_n (j := 1) C d_X11_market_42 rfl ?_
    refine zg_X11_live C rfl tw_461 d_X11_market_43 ?_
    refine zg_X2_pools C rfl tw_198 d_X11_market_46 ?_
    exact r_i C hr rfl d_X11_market_49 hf
  · refine z_bipush (v := (-2)) C d_X11_market_20 (by decide) ?_
    refine z_aload_n (j := 1) C d_X11_market_22 rfl ?_
    refine zg_X11_tape C rfl tw_460 d_X11_market_23 ?_
    refine zg_X9_fault C rfl tw_36 d_X11_market_26 ?_
    refine z_isub C d_X11_market_29 ?_
    exact r_i C hr rfl d_X11_market_30 hf
theorem d_X11_bundle_0 : decode cX11_bundle 0 = .ok (.aload_n 0, 1) := by decide +kernel
theorem d_X11_bundle_1 : decode cX11_bundle 1 = .ok (.getfield 19, 3) := by decide +kernel
theorem d_X11_bundle_4 : decode cX11_bundle 4 = .ok (.iload_n 1, 1) := by decide +kernel
theorem d_X11_bundle_5 : decode cX11_bundle 5 = .ok (.invokevirtual 94, 3) := by decide +kernel
theorem d_X11_bundle_8 : decode cX11_bundle 8 = .ok (.ifCond .ne 5, 3) := by decide +kernel
theorem d_X11_bundle_11 : decode cX11_bundle 11 = .ok (.iconst (-1), 1) := by decide +kernel
theorem d_X11_bundle_12 : decode cX11_bundle 12 = .ok (.ireturn, 1) := by decide +kernel
theorem d_X11_bundle_13 : decode cX11_bundle 13 = .ok (.aload_n 0, 1) := by decide +kernel
theorem d_X11_bundle_14 : decode cX11_bundle 14 = .ok (.getfield 47, 3) := by decide +kernel
theorem d_X11_bundle_17 : decode cX11_bundle 17 = .ok (.invokevirtual 98, 3) := by decide +kernel
theorem d_X11_bundle_20 : decode cX11_bundle 20 = .ok (.istore_n 2, 1) := by decide +kernel
theorem d_X11_bundle_21 : decode cX11_bundle 21 = .ok (.aload_n 0, 1) := by decide +kernel
theorem d_X11_bundle_22 : decode cX11_bundle 22 = .ok (.getfield 10, 3) := by decide +kernel
theorem d_X11_bundle_25 : decode cX11_bundle 25 = .ok (.iconst 0, 1) := by decide +kernel
theorem d_X11_bundle_26 : decode cX11_bundle 26 = .ok (.putfield 77, 3) := by decide +kernel
theorem d_X11_bundle_29 : decode cX11_bundle 29 = .ok (.iload_n 2, 1) := by decide +kernel
theorem d_X11_bundle_30 : decode cX11_bundle 30 = .ok (.ifCond .ne 14, 3) := by decide +kernel
theorem d_X11_bundle_33 : decode cX11_bundle 33 = .ok (.bipush (-2), 2) := by decide +kernel
theorem d_X11_bundle_35 : decode cX11_bundle 35 = .ok (.aload_n 0, 1) := by decide +kernel
theorem d_X11_bundle_36 : decode cX11_bundle 36 = .ok (.getfield 10, 3) := by decide +kernel
theorem d_X11_bundle_39 : decode cX11_bundle 39 = .ok (.getfield 84, 3) := by decide +kernel
theorem d_X11_bundle_42 : decode cX11_bundle 42 = .ok (.isub, 1) := by decide +kernel
theorem d_X11_bundle_43 : decode cX11_bundle 43 = .ok (.ireturn, 1) := by decide +kernel
theorem d_X11_bundle_44 : decode cX11_bundle 44 = .ok (.aload_n 0, 1) := by decide +kernel
theorem d_X11_bundle_45 : decode cX11_bundle 45 = .ok (.getfield 23, 3) := by decide +kernel
theorem d_X11_bundle_48 : decode cX11_bundle 48 = .ok (.aload_n 0, 1) := by decide +kernel
theorem d_X11_bundle_49 : decode cX11_bundle 49 = .ok (.getfield 19, 3) := by decide +kernel
theorem d_X11_bundle_52 : decode cX11_bundle 52 = .ok (.invokevirtual 87, 3) := by decide +kernel
theorem d_X11_bundle_55 : decode cX11_bundle 55 = .ok (.aload_n 0, 1) := by decide +kernel
theorem d_X11_bundle_56 : decode cX11_bundle 56 = .ok (.getfield 56, 3) := by decide +kernel
theorem d_X11_bundle_59 : decode cX11_bundle 59 = .ok (.iload_n 1, 1) := by decide +kernel
theorem d_X11_bundle_60 : decode cX11_bundle 60 = .ok (.invokevirtual 101, 3) := by decide +kernel
theorem d_X11_bundle_63 : decode cX11_bundle 63 = .ok (.iconst 0, 1) := by decide +kernel
theorem d_X11_bundle_64 : decode cX11_bundle 64 = .ok (.istore_n 3, 1) := by decide +kernel
theorem d_X11_bundle_65 : decode cX11_bundle 65 = .ok (.iload_n 3, 1) := by decide +kernel
theorem d_X11_bundle_66 : decode cX11_bundle 66 = .ok (.sipush 1000, 3) := by decide +kernel
theorem d_X11_bundle_69 : decode cX11_bundle 69 = .ok (.if_icmp .ge 26, 3) := by decide +kernel
theorem d_X11_bundle_72 : decode cX11_bundle 72 = .ok (.aload_n 0, 1) := by decide +kernel
theorem d_X11_bundle_73 : decode cX11_bundle 73 = .ok (.getfield 56, 3) := by decide +kernel
theorem d_X11_bundle_76 : decode cX11_bundle 76 = .ok (.invokevirtual 104, 3) := by decide +kernel
theorem d_X11_bundle_79 : decode cX11_bundle 79 = .ok (.ifCond .eq 16, 3) := by decide +kernel
theorem d_X11_bundle_82 : decode cX11_bundle 82 = .ok (.aload_n 0, 1) := by decide +kernel
theorem d_X11_bundle_83 : decode cX11_bundle 83 = .ok (.getfield 56, 3) := by decide +kernel
theorem d_X11_bundle_86 : decode cX11_bundle 86 = .ok (.invokevirtual 107, 3) := by decide +kernel
theorem d_X11_bundle_89 : decode cX11_bundle 89 = .ok (.iinc 3 1, 3) := by decide +kernel
theorem d_X11_bundle_92 : decode cX11_bundle 92 = .ok (.goto (-27), 3) := by decide +kernel
theorem d_X11_bundle_95 : decode cX11_bundle 95 = .ok (.aload_n 0, 1) := by decide +kernel
theorem d_X11_bundle_96 : decode cX11_bundle 96 = .ok (.getfield 56, 3) := by decide +kernel
theorem d_X11_bundle_99 : decode cX11_bundle 99 = .ok (.getfield 110, 3) := by decide +kernel
theorem d_X11_bundle_102 : decode cX11_bundle 102 = .ok (.ifCond .eq 25, 3) := by decide +kernel
theorem d_X11_bundle_105 : decode cX11_bundle 105 = .ok (.aload_n 0, 1) := by decide +kernel
theorem d_X11_bundle_106 : decode cX11_bundle 106 = .ok (.getfield 19, 3) := by decide +kernel
theorem d_X11_bundle_109 : decode cX11_bundle 109 = .ok (.aload_n 0, 1) := by decide +kernel
theorem d_X11_bundle_110 : decode cX11_bundle 110 = .ok (.getfield 23, 3) := by decide +kernel
theorem d_X11_bundle_113 : decode cX11_bundle 113 = .ok (.invokevirtual 87, 3) := by decide +kernel
theorem d_X11_bundle_116 : decode cX11_bundle 116 = .ok (.bipush (-2), 2) := by decide +kernel
theorem d_X11_bundle_118 : decode cX11_bundle 118 = .ok (.aload_n 0, 1) := by decide +kernel
theorem d_X11_bundle_119 : decode cX11_bundle 119 = .ok (.getfield 56, 3) := by decide +kernel
theorem d_X11_bundle_122 : decode cX11_bundle 122 = .ok (.getfield 110, 3) := by decide +kernel
theorem d_X11_bundle_125 : decode cX11_bundle 125 = .ok (.isub, 1) := by decide +kernel
theorem d_X11_bundle_126 : decode cX11_bundle 126 = .ok (.ireturn, 1) := by decide +kernel
theorem d_X11_bundle_127 : decode cX11_bundle 127 = .ok (.aload_n 0, 1) := by decide +kernel
theorem d_X11_bundle_128 : decode cX11_bundle 128 = .ok (.getfield 56, 3) := by decide +kernel
theorem d_X11_bundle_131 : decode cX11_bundle 131 = .ok (.getfield 113, 3) := by decide +kernel
theorem d_X11_bundle_134 : decode cX11_bundle 134 = .ok (.ireturn, 1) := by decide +kernel
def f_X11_bundle_95 (S : Mem) : Option (Int32 × Mem) := (if (gI S 9 1) = 0 then (some ((gI S 9 0), S)) else ((f_X2_copyFrom 78 143 S).bind fun q113 => (some (((-2) - (gI q113.2 9 1)), q113.2))))
set_option maxRecDepth 20000 in
theorem t_X11_bundle_95 {X : MC} {Γ : GG} (C : CX X Γ cX11_bundle 4 "TickPools" 8 196) (hr : X.2.2.2.2.2.2.2.2.1.sig.returnType = some .int) {q : Int32 × Mem} (S : Mem) (hf : f_X11_bundle_95 S = some q) : ZZ X Γ 4 (QQ X Γ (some (aI q.1)) q.2) S 95 [(0, aR 1)] [] := by
  unfold f_X11_bundle_95 at hf
  refine z_aload_n (j := 0) C d_X11_bundle_95 rfl ?_
  refine zg_X11_runner C rfl tw_465 d_X11_bundle_96 ?_
  refine zg_X5_failure C rfl tw_383 d_X11_bundle_99 ?_
  refine z_if_eq (tgt := 127) C d_X11_bundle_102 (by decide) hf (fun c102 hf => ?_) (fun c102 hf => ?_)
  · refine z_aload_n (j := 0) C d_X11_bundle_127 rfl ?_
    refine zg_X11_runner C rfl tw_465 d_X11_bundle_128 ?_
    refine zg_X5_done C rfl tw_381 d_X11_bundle_131 ?_
    exact r_i C hr rfl d_X11_bundle_134 hf
  · refine z_aload_n (j := 0) C d_X11_bundle_105 rfl ?_
    refine zg_X11_live C rfl tw_461 d_X11_bundle_106 ?_
    refine z_aload_n (j := 0) C d_X11_bundle_109 rfl ?_
    refine zg_X11_spare C rfl tw_462 d_X11_bundle_110 ?_
    obtain ⟨q113, hF, hf⟩ := bd hf
    refine z_callV0 (rest := []) C [aR 143] rfl (by decide) rfl rfl k_X2_copyFrom tw_659 ⟨by decide, by decide⟩ (Nat.le_of_ble_eq_true rfl) d_X11_bundle_113 (c_X2_copyFrom C.inj hF) rfl ?_
    refine z_bipush (v := (-2)) C d_X11_bundle_116 (by decide) ?_
    refine z_aload_n (j := 0) C d_X11_bundle_118 rfl ?_
    refine zg_X11_runner C rfl tw_465 d_X11_bundle_119 ?_
    refine zg_X5_failure C rfl tw_383 d_X11_bundle_122 ?_
    refine z_isub C d_X11_bundle_125 ?_
    exact r_i C hr rfl d_X11_bundle_126 hf
def f_X11_bundle_65B (k65 : Int32 → Mem → Option (Int32 × Mem)) (v3 : Int32) (S : Mem) : Option (Int32 × Mem) := (if 1000 ≤ v3 then (f_X11_bundle_95  S) else ((f_X5_goesOn S).bind fun q76 => (if q76.1 = 0 then (f_X11_bundle_95  q76.2) else ((f_X5_turn q76.2).bind fun q86 => (k65 (v3 + 1) q86.2)))))
set_option maxRecDepth 20000 in
theorem t_X11_bundle_65B {X : MC} {Γ : GG} (C : CX X Γ cX11_bundle 4 "TickPools" 8 196) (hr : X.2.2.2.2.2.2.2.2.1.sig.returnType = some .int) {k65 : Int32 → Mem → Option (Int32 × Mem)} {q : Int32 × Mem} (hk65 : ∀ (v3 : Int32) (S : Mem), k65 v3 S = some q → ZZ X Γ 4 (QQ X Γ (some (aI q.1)) q.2) S 65 [(0, aR 1), (3, aI v3)] []) (v3 : Int32) (S : Mem) (hf : f_X11_bundle_65B k65 v3 S = some q) : ZZ X Γ 4 (QQ X Γ (some (aI q.1)) q.2) S 65 [(0, aR 1), (3, aI v3)] [] := by
  unfold f_X11_bundle_65B at hf
  refine z_iload_n (j := 1) C d_X11_bundle_65 rfl ?_
  refine z_sipush (v := 1000) C d_X11_bundle_66 (by decide) ?_
  refine z_icmp_ge (tgt := 95) C d_X11_bundle_69 (by decide) hf (fun c69 hf => ?_) (fun c69 hf => ?_)
  · exact z_sub [0] rfl (t_X11_bundle_95 C hr  _ hf)
  · refine z_aload_n (j := 0) C d_X11_bundle_72 rfl ?_
    refine zg_X11_runner C rfl tw_465 d_X11_bundle_73 ?_
    obtain ⟨q76, hF, hf⟩ := bd hf
    refine z_callV1 (rest := []) C [] rfl (by decide) rfl rfl k_X5_goesOn tw_759 ⟨by decide, by decide⟩ (Nat.le_of_ble_eq_true rfl) d_X11_bundle_76 (c_X5_goesOn C.inj hF) rfl ?_
    refine z_if_eq (tgt := 95) C d_X11_bundle_79 (by decide) hf (fun c79 hf => ?_) (fun c79 hf => ?_)
    · exact z_sub [0] rfl (t_X11_bundle_95 C hr  _ hf)
    · refine z_aload_n (j := 0) C d_X11_bundle_82 rfl ?_
      refine zg_X11_runner C rfl tw_465 d_X11_bundle_83 ?_
      obtain ⟨q86, hF, hf⟩ := bd hf
      refine z_callV0 (rest := []) C [] rfl (by decide) rfl rfl k_X5_turn tw_763 ⟨by decide, by decide⟩ (Nat.le_of_ble_eq_true rfl) d_X11_bundle_86 (c_X5_turn C.inj hF) rfl ?_
      refine z_iinc (j := 1) (v := (v3 + 1)) (lv' := [(3, aI (v3 + 1)), (0, aR 1)]) C d_X11_bundle_89 rfl rfl (by decide) rfl ?_
      refine z_goto (tgt := 65) C d_X11_bundle_92 (by decide) ?_
      exact z_sub [1, 0] rfl (hk65 _ _ hf)
def f_X11_bundle_65 : Nat → Int32 → Mem → Option (Int32 × Mem)
  | 0 => fun _ _ => none
  | n + 1 => f_X11_bundle_65B (f_X11_bundle_65 n)
theorem t_X11_bundle_65 {X : MC} {Γ : GG} (C : CX X Γ cX11_bundle 4 "TickPools" 8 196) (hr : X.2.2.2.2.2.2.2.2.1.sig.returnType = some .int) {q : Int32 × Mem} : ∀ (n : Nat) (v3 : Int32) (S : Mem) (hf : f_X11_bundle_65 n v3 S = some q), ZZ X Γ 4 (QQ X Γ (some (aI q.1)) q.2) S 65 [(0, aR 1), (3, aI v3)] []
  | 0, _, _, hf => nomatch (show (none : Option (Int32 × Mem)) = some q from hf)
  | n + 1, v3, S, hf => t_X11_bundle_65B C hr (t_X11_bundle_65 C hr n) v3 S hf
/-- TickPools.bundle(I)I -/
def f_X11_bundle (p1 : Int32) (S : Mem) : Option (Int32 × Mem) := ((f_X2_hasPerson 78 p1 S).bind fun q5 => (if q5.1 = 0 then (some ((-1), q5.2)) else ((f_X6_compile q5.2).bind fun q17 => (if q17.1 = 0 then (some (((-2) - (gI (sI q17.2 2 0 0) 2 1)), (sI q17.2 2 0 0))) else ((f_X2_copyFrom 143 78 (sI q17.2 2 0 0)).bind fun q52 => ((f_X5_start p1 q52.2).bind fun q60 => (f_X11_bundle_65  100000 0 q60.2)))))))
set_option maxRecDepth 20000 in
theorem c_X11_bundle {l : Launch} {Γ : GG} (hI : Inj Γ) {p1 : Int32} {S : Mem} {q : Int32 × Mem} (hf : f_X11_bundle p1 S = some q) : MM l Γ yX11_bundle cX11_bundle 4 (some .int) 8 196 [aR 1, aI p1] S (some (aI q.1)) q.2 := by
  refine met_of hI "TickPools" rfl (by decide +kernel) (Nat.le_of_ble_eq_true rfl) (fun X hX C hr => ?_)
  unfold f_X11_bundle at hf
  show ZZ X Γ 4 _ S 0 [(0, aR 1), (1, aI p1)] []
  refine z_aload_n (j := 0) C d_X11_bundle_0 rfl ?_
  refine zg_X11_live C rfl tw_461 d_X11_bundle_1 ?_
  refine z_iload_n (j := 1) C d_X11_bundle_4 rfl ?_
  obtain ⟨q5, hF, hf⟩ := bd hf
  refine z_callV1 (rest := []) C [aI p1] rfl (by decide) rfl rfl k_X2_hasPerson tw_683 ⟨by decide, by decide⟩ (Nat.le_of_ble_eq_true rfl) d_X11_bundle_5 (c_X2_hasPerson C.inj hF) rfl ?_
  refine z_if_ne (tgt := 13) C d_X11_bundle_8 (by decide) hf (fun c8 hf => ?_) (fun c8 hf => ?_)
  · refine z_aload_n (j := 0) C d_X11_bundle_13 rfl ?_
    refine zg_X11_script C rfl tw_464 d_X11_bundle_14 ?_
    obtain ⟨q17, hF, hf⟩ := bd hf
    refine z_callV1 (rest := []) C [] rfl (by decide) rfl rfl k_X6_compile tw_687 ⟨by decide, by decide⟩ (Nat.le_of_ble_eq_true rfl) d_X11_bundle_17 (c_X6_compile C.inj hF) rfl ?_
    refine z_istore_n (lv' := [(2, aI q17.1), (0, aR 1), (1, aI p1)]) C d_X11_bundle_20 (by decide) rfl ?_
    refine z_aload_n (j := 1) C d_X11_bundle_21 rfl ?_
    refine zg_X11_tape C rfl tw_460 d_X11_bundle_22 ?_
    refine z_iconst (v := 0) C d_X11_bundle_25 (by decide) ?_
    refine zp_X9_length C rfl tw_34 d_X11_bundle_26 ?_
    refine z_iload_n (j := 0) C d_X11_bundle_29 rfl ?_
    refine z_if_ne (tgt := 44) C d_X11_bundle_30 (by decide) hf (fun c30 hf => ?_) (fun c30 hf => ?_)
    · refine z_aload_n (j := 1) C d_X11_bundle_44 rfl ?_
      refine zg_X11_spare C rfl tw_462 d_X11_bundle_45 ?_
      refine z_aload_n (j := 1) C d_X11_bundle_48 rfl ?_
      refine zg_X11_live C rfl tw_461 d_X11_bundle_49 ?_
      obtain ⟨q52, hF, hf⟩ := bd hf
      refine z_callV0 (rest := []) C [aR 78] rfl (by decide) rfl rfl k_X2_copyFrom tw_659 ⟨by decide, by decide⟩ (Nat.le_of_ble_eq_true rfl) d_X11_bundle_52 (c_X2_copyFrom C.inj hF) rfl ?_
      refine z_aload_n (j := 1) C d_X11_bundle_55 rfl ?_
      refine zg_X11_runner C rfl tw_465 d_X11_bundle_56 ?_
      refine z_iload_n (j := 2) C d_X11_bundle_59 rfl ?_
      obtain ⟨q60, hF, hf⟩ := bd hf
      refine z_callV0 (rest := []) C [aI p1] rfl (by decide) rfl rfl k_X5_start tw_755 ⟨by decide, by decide⟩ (Nat.le_of_ble_eq_true rfl) d_X11_bundle_60 (c_X5_start C.inj hF) rfl ?_
      refine z_iconst (v := 0) C d_X11_bundle_63 (by decide) ?_
      refine z_istore_n (lv' := [(3, aI 0), (2, aI q17.1), (0, aR 1), (1, aI p1)]) C d_X11_bundle_64 (by decide) rfl ?_
      exact z_sub [2, 0] rfl (t_X11_bundle_65 C hr  100000 _ _ hf)
    · refine z_bipush (v := (-2)) C d_X11_bundle_33 (by decide) ?_
      refine z_aload_n (j := 1) C d_X11_bundle_35 rfl ?_
      refine zg_X11_tape C rfl tw_460 d_X11_bundle_36 ?_
      refine zg_X9_fault C rfl tw_36 d_X11_bundle_39 ?_
      refine z_isub C d_X11_bundle_42 ?_
      exact r_i C hr rfl d_X11_bundle_43 hf
  · refine z_iconst (v := (-1)) C d_X11_bundle_11 (by decide) ?_
    exact r_i C hr rfl d_X11_bundle_12 hf
theorem d_X11_root_0 : decode cX11_root 0 = .ok (.iload_n 1, 1) := by decide +kernel
theorem d_X11_root_1 : decode cX11_root 1 = .ok (.invokestatic 116, 3) := by decide +kernel
theorem d_X11_root_4 : decode cX11_root 4 = .ok (.ifCond .eq 10, 3) := by decide +kernel
theorem d_X11_root_7 : decode cX11_root 7 = .ok (.iload_n 1, 1) := by decide +kernel
theorem d_X11_root_8 : decode cX11_root 8 = .ok (.invokestatic 119, 3) := by decide +kernel
theorem d_X11_root_11 : decode cX11_root 11 = .ok (.goto 4, 3) := by decide +kernel
theorem d_X11_root_14 : decode cX11_root 14 = .ok (.iconst (-1), 1) := by decide +kernel
theorem d_X11_root_15 : decode cX11_root 15 = .ok (.ireturn, 1) := by decide +kernel
def f_X11_root_15 (s0 : Int32) (S : Mem) : Option (Int32 × Mem) := (some (s0, S))
set_option maxRecDepth 20000 in
theorem t_X11_root_15 {X : MC} {Γ : GG} (C : CX X Γ cX11_root 2 "TickPools" 1 21) (hr : X.2.2.2.2.2.2.2.2.1.sig.returnType = some .int) {q : Int32 × Mem} (s0 : Int32) (S : Mem) (hf : f_X11_root_15 s0 S = some q) : ZZ X Γ 2 (QQ X Γ (some (aI q.1)) q.2) S 15 [] [aI s0] := by
  unfold f_X11_root_15 at hf
  exact r_i C hr rfl d_X11_root_15 hf
/-- TickPools.root(I)I -/
def f_X11_root (p1 : Int32) (S : Mem) : Option (Int32 × Mem) := ((f_X11_isTick p1 S).bind fun q1 => (if q1.1 = 0 then (f_X11_root_15  (-1) q1.2) else ((f_X0_rootAt p1 q1.2).bind fun q8 => (f_X11_root_15  q8.1 q8.2))))
set_option maxRecDepth 20000 in
theorem c_X11_root {l : Launch} {Γ : GG} (hI : Inj Γ) {p1 : Int32} {S : Mem} {q : Int32 × Mem} (hf : f_X11_root p1 S = some q) : MM l Γ yX11_root cX11_root 2 (some .int) 1 21 [aR 1, aI p1] S (some (aI q.1)) q.2 := by
  refine met_of hI "TickPools" rfl (by decide +kernel) (Nat.le_of_ble_eq_true rfl) (fun X hX C hr => ?_)
  unfold f_X11_root at hf
  show ZZ X Γ 2 _ S 0 [(0, aR 1), (1, aI p1)] []
  refine z_iload_n (j := 1) C d_X11_root_0 rfl ?_
  obtain ⟨q1, hF, hf⟩ := bd hf
  refine z_callS1 (rest := []) C [aI p1] k_X11_isTick tw_1009 ⟨by decide, by decide⟩ (Nat.le_of_ble_eq_true rfl) d_X11_root_1 (c_X11_isTick C.inj hF) rfl ?_
  refine z_if_eq (tgt := 14) C d_X11_root_4 (by decide) hf (fun c4 hf => ?_) (fun c4 hf => ?_)
  · refine z_iconst (v := (-1)) C d_X11_root_14 (by decide) ?_
    exact z_sub [] rfl (t_X11_root_15 C hr  _ _ hf)
  · refine z_iload_n (j := 1) C d_X11_root_7 rfl ?_
    obtain ⟨q8, hF, hf⟩ := bd hf
    refine z_callS1 (rest := []) C [aI p1] k_X0_rootAt tw_1010 ⟨by decide, by decide⟩ (Nat.le_of_ble_eq_true rfl) d_X11_root_8 (c_X0_rootAt C.inj hF) rfl ?_
    refine z_goto (tgt := 15) C d_X11_root_11 (by decide) ?_
    exact z_sub [] rfl (t_X11_root_15 C hr  _ _ hf)
theorem d_X11_purse_0 : decode cX11_purse 0 = .ok (.aload_n 0, 1) := by decide +kernel
theorem d_X11_purse_1 : decode cX11_purse 1 = .ok (.getfield 19, 3) := by decide +kernel
theorem d_X11_purse_4 : decode cX11_purse 4 = .ok (.iload_n 1, 1) := by decide +kernel
theorem d_X11_purse_5 : decode cX11_purse 5 = .ok (.invokevirtual 94, 3) := by decide +kernel
theorem d_X11_purse_8 : decode cX11_purse 8 = .ok (.ifCond .eq 26, 3) := by decide +kernel
theorem d_X11_purse_11 : decode cX11_purse 11 = .ok (.aload_n 0, 1) := by decide +kernel
theorem d_X11_purse_12 : decode cX11_purse 12 = .ok (.getfield 19, 3) := by decide +kernel
theorem d_X11_purse_15 : decode cX11_purse 15 = .ok (.iload_n 2, 1) := by decide +kernel
theorem d_X11_purse_16 : decode cX11_purse 16 = .ok (.invokevirtual 125, 3) := by decide +kernel
theorem d_X11_purse_19 : decode cX11_purse 19 = .ok (.ifCond .eq 15, 3) := by decide +kernel
theorem d_X11_purse_22 : decode cX11_purse 22 = .ok (.aload_n 0, 1) := by decide +kernel
theorem d_X11_purse_23 : decode cX11_purse 23 = .ok (.getfield 19, 3) := by decide +kernel
theorem d_X11_purse_26 : decode cX11_purse 26 = .ok (.iload_n 1, 1) := by decide +kernel
theorem d_X11_purse_27 : decode cX11_purse 27 = .ok (.iload_n 2, 1) := by decide +kernel
theorem d_X11_purse_28 : decode cX11_purse 28 = .ok (.invokevirtual 128, 3) := by decide +kernel
theorem d_X11_purse_31 : decode cX11_purse 31 = .ok (.goto 4, 3) := by decide +kernel
theorem d_X11_purse_34 : decode cX11_purse 34 = .ok (.iconst (-1), 1) := by decide +kernel
theorem d_X11_purse_35 : decode cX11_purse 35 = .ok (.ireturn, 1) := by decide +kernel
def f_X11_purse_35 (s0 : Int32) (S : Mem) : Option (Int32 × Mem) := (some (s0, S))
set_option maxRecDepth 20000 in
theorem t_X11_purse_35 {X : MC} {Γ : GG} (C : CX X Γ cX11_purse 3 "TickPools" 1 23) (hr : X.2.2.2.2.2.2.2.2.1.sig.returnType = some .int) {q : Int32 × Mem} (s0 : Int32) (S : Mem) (hf : f_X11_purse_35 s0 S = some q) : ZZ X Γ 3 (QQ X Γ (some (aI q.1)) q.2) S 35 [] [aI s0] := by
  unfold f_X11_purse_35 at hf
  exact r_i C hr rfl d_X11_purse_35 hf
def f_X11_purse_34 (S : Mem) : Option (Int32 × Mem) := (f_X11_purse_35  (-1) S)
set_option maxRecDepth 20000 in
theorem t_X11_purse_34 {X : MC} {Γ : GG} (C : CX X Γ cX11_purse 3 "TickPools" 1 23) (hr : X.2.2.2.2.2.2.2.2.1.sig.returnType = some .int) {q : Int32 × Mem} (S : Mem) (hf : f_X11_purse_34 S = some q) : ZZ X Γ 3 (QQ X Γ (some (aI q.1)) q.2) S 34 [] [] := by
  unfold f_X11_purse_34 at hf
  refine z_iconst (v := (-1)) C d_X11_purse_34 (by decide) ?_
  exact z_sub [] rfl (t_X11_purse_35 C hr  _ _ hf)
/-- TickPools.purse(II)I -/
def f_X11_purse (p1 : Int32) (p2 : Int32) (S : Mem) : Option (Int32 × Mem) := ((f_X2_hasPerson 78 p1 S).bind fun q5 => (if q5.1 = 0 then (f_X11_purse_34  q5.2) else ((f_X2_hasThing 78 p2 q5.2).bind fun q16 => (if q16.1 = 0 then (f_X11_purse_34  q16.2) else ((f_X2_purseOf 78 p1 p2 q16.2).bind fun q28 => (f_X11_purse_35  q28.1 q28.2))))))
set_option maxRecDepth 20000 in
theorem c_X11_purse {l : Launch} {Γ : GG} (hI : Inj Γ) {p1 : Int32} {p2 : Int32} {S : Mem} {q : Int32 × Mem} (hf : f_X11_purse p1 p2 S = some q) : MM l Γ yX11_purse cX11_purse 3 (some .int) 1 23 [aR 1, aI p1, aI p2] S (some (aI q.1)) q.2 := by
  refine met_of hI "TickPools" rfl (by decide +kernel) (Nat.le_of_ble_eq_true rfl) (fun X hX C hr => ?_)
  unfold f_X11_purse at hf
  show ZZ X Γ 3 _ S 0 [(0, aR 1), (1, aI p1), (2, aI p2)] []
  refine z_aload_n (j := 0) C d_X11_purse_0 rfl ?_
  refine zg_X11_live C rfl tw_461 d_X11_purse_1 ?_
  refine z_iload_n (j := 1) C d_X11_purse_4 rfl ?_
  obtain ⟨q5, hF, hf⟩ := bd hf
  refine z_callV1 (rest := []) C [aI p1] rfl (by decide) rfl rfl k_X2_hasPerson tw_683 ⟨by decide, by decide⟩ (Nat.le_of_ble_eq_true rfl) d_X11_purse_5 (c_X2_hasPerson C.inj hF) rfl ?_
  refine z_if_eq (tgt := 34) C d_X11_purse_8 (by decide) hf (fun c8 hf => ?_) (fun c8 hf => ?_)
  · exact z_sub [] rfl (t_X11_purse_34 C hr  _ hf)
  · refine z_aload_n (j := 0) C d_X11_purse_11 rfl ?_
    refine zg_X11_live C rfl tw_461 d_X11_purse_12 ?_
    refine z_iload_n (j := 2) C d_X11_purse_15 rfl ?_
    obtain ⟨q16, hF, hf⟩ := bd hf
    refine z_callV1 (rest := []) C [aI p2] rfl (by decide) rfl rfl k_X2_hasThing tw_1015 ⟨by decide, by decide⟩ (Nat.le_of_ble_eq_true rfl) d_X11_purse_16 (c_X2_hasThing C.inj hF) rfl ?_
    refine z_if_eq (tgt := 34) C d_X11_purse_19 (by decide) hf (fun c19 hf => ?_) (fun c19 hf => ?_)
    · exact z_sub [] rfl (t_X11_purse_34 C hr  _ hf)
    · refine z_aload_n (j := 0) C d_X11_purse_22 rfl ?_
      refine zg_X11_live C rfl tw_461 d_X11_purse_23 ?_
      refine z_iload_n (j := 1) C d_X11_purse_26 rfl ?_
      refine z_iload_n (j := 2) C d_X11_purse_27 rfl ?_
      obtain ⟨q28, hF, hf⟩ := bd hf
      refine z_callV1 (rest := []) C [aI p1, aI p2] rfl (by decide) rfl rfl k_X2_purseOf tw_1016 ⟨by decide, by decide⟩ (Nat.le_of_ble_eq_true rfl) d_X11_purse_28 (c_X2_purseOf C.inj hF) rfl ?_
      refine z_goto (tgt := 35) C d_X11_purse_31 (by decide) ?_
      exact z_sub [] rfl (t_X11_purse_35 C hr  _ _ hf)
theorem d_X11_pool_0 : decode cX11_pool 0 = .ok (.aload_n 0, 1) := by decide +kernel
theorem d_X11_pool_1 : decode cX11_pool 1 = .ok (.getfield 19, 3) := by decide +kernel
theorem d_X11_pool_4 : decode cX11_pool 4 = .ok (.iload_n 1, 1) := by decide +kernel
theorem d_X11_pool_5 : decode cX11_pool 5 = .ok (.invokevirtual 132, 3) := by decide +kernel
theorem d_X11_pool_8 : decode cX11_pool 8 = .ok (.astore_n 3, 1) := by decide +kernel
theorem d_X11_pool_9 : decode cX11_pool 9 = .ok (.aload_n 3, 1) := by decide +kernel
theorem d_X11_pool_10 : decode cX11_pool 10 = .ok (.ifnonnull 5, 3) := by decide +kernel
theorem d_X11_pool_13 : decode cX11_pool 13 = .ok (.iconst (-1), 1) := by decide +kernel
theorem d_X11_pool_14 : decode cX11_pool 14 = .ok (.ireturn, 1) := by decide +kernel
theorem d_X11_pool_15 : decode cX11_pool 15 = .ok (.iload_n 2, 1) := by decide +kernel
theorem d_X11_pool_16 : decode cX11_pool 16 = .ok (.tableswitch 171 0 13 #[72, 77, 82, 87, 92, 97, 102, 107, 121, 128, 135, 142, 149, 160], 72) := by decide +kernel
theorem d_X11_pool_88 : decode cX11_pool 88 = .ok (.aload_n 3, 1) := by decide +kernel
theorem d_X11_pool_89 : decode cX11_pool 89 = .ok (.getfield 136, 3) := by decide +kernel
theorem d_X11_pool_92 : decode cX11_pool 92 = .ok (.ireturn, 1) := by decide +kernel
theorem d_X11_pool_93 : decode cX11_pool 93 = .ok (.aload_n 3, 1) := by decide +kernel
theorem d_X11_pool_94 : decode cX11_pool 94 = .ok (.getfield 141, 3) := by decide +kernel
theorem d_X11_pool_97 : decode cX11_pool 97 = .ok (.ireturn, 1) := by decide +kernel
theorem d_X11_pool_98 : decode cX11_pool 98 = .ok (.aload_n 3, 1) := by decide +kernel
theorem d_X11_pool_99 : decode cX11_pool 99 = .ok (.getfield 144, 3) := by decide +kernel
theorem d_X11_pool_102 : decode cX11_pool 102 = .ok (.ireturn, 1) := by decide +kernel
theorem d_X11_pool_103 : decode cX11_pool 103 = .ok (.aload_n 3, 1) := by decide +kernel
theorem d_X11_pool_104 : decode cX11_pool 104 = .ok (.getfield 147, 3) := by decide +kernel
theorem d_X11_pool_107 : decode cX11_pool 107 = .ok (.ireturn, 1) := by decide +kernel
theorem d_X11_pool_108 : decode cX11_pool 108 = .ok (.aload_n 3, 1) := by decide +kernel
theorem d_X11_pool_109 : decode cX11_pool 109 = .ok (.getfield 150, 3) := by decide +kernel
theorem d_X11_pool_112 : decode cX11_pool 112 = .ok (.ireturn, 1) := by decide +kernel
theorem d_X11_pool_113 : decode cX11_pool 113 = .ok (.aload_n 3, 1) := by decide +kernel
theorem d_X11_pool_114 : decode cX11_pool 114 = .ok (.getfield 153, 3) := by decide +kernel
theorem d_X11_pool_117 : decode cX11_pool 117 = .ok (.ireturn, 1) := by decide +kernel
theorem d_X11_pool_118 : decode cX11_pool 118 = .ok (.aload_n 3, 1) := by decide +kernel
theorem d_X11_pool_119 : decode cX11_pool 119 = .ok (.getfield 156, 3) := by decide +kernel
theorem d_X11_pool_122 : decode cX11_pool 122 = .ok (.ireturn, 1) := by decide +kernel
theorem d_X11_pool_123 : decode cX11_pool 123 = .ok (.aload_n 0, 1) := by decide +kernel
theorem d_X11_pool_124 : decode cX11_pool 124 = .ok (.getfield 19, 3) := by decide +kernel
theorem d_X11_pool_127 : decode cX11_pool 127 = .ok (.iload_n 1, 1) := by decide +kernel
theorem d_X11_pool_128 : decode cX11_pool 128 = .ok (.aload_n 3, 1) := by decide +kernel
theorem d_X11_pool_129 : decode cX11_pool 129 = .ok (.getfield 153, 3) := by decide +kernel
theorem d_X11_pool_132 : decode cX11_pool 132 = .ok (.invokevirtual 159, 3) := by decide +kernel
theorem d_X11_pool_135 : decode cX11_pool 135 = .ok (.l2i, 1) := by decide +kernel
theorem d_X11_pool_136 : decode cX11_pool 136 = .ok (.ireturn, 1) := by decide +kernel
theorem d_X11_pool_137 : decode cX11_pool 137 = .ok (.aload_n 3, 1) := by decide +kernel
theorem d_X11_pool_138 : decode cX11_pool 138 = .ok (.getfield 163, 3) := by decide +kernel
theorem d_X11_pool_141 : decode cX11_pool 141 = .ok (.iconst 0, 1) := by decide +kernel
theorem d_X11_pool_142 : decode cX11_pool 142 = .ok (.iaload, 1) := by decide +kernel
theorem d_X11_pool_143 : decode cX11_pool 143 = .ok (.ireturn, 1) := by decide +kernel
theorem d_X11_pool_144 : decode cX11_pool 144 = .ok (.aload_n 3, 1) := by decide +kernel
theorem d_X11_pool_145 : decode cX11_pool 145 = .ok (.getfield 163, 3) := by decide +kernel
theorem d_X11_pool_148 : decode cX11_pool 148 = .ok (.iconst 1, 1) := by decide +kernel
theorem d_X11_pool_149 : decode cX11_pool 149 = .ok (.iaload, 1) := by decide +kernel
theorem d_X11_pool_150 : decode cX11_pool 150 = .ok (.ireturn, 1) := by decide +kernel
theorem d_X11_pool_151 : decode cX11_pool 151 = .ok (.aload_n 3, 1) := by decide +kernel
theorem d_X11_pool_152 : decode cX11_pool 152 = .ok (.getfield 167, 3) := by decide +kernel
theorem d_X11_pool_155 : decode cX11_pool 155 = .ok (.iconst 0, 1) := by decide +kernel
theorem d_X11_pool_156 : decode cX11_pool 156 = .ok (.iaload, 1) := by decide +kernel
theorem d_X11_pool_157 : decode cX11_pool 157 = .ok (.ireturn, 1) := by decide +kernel
theorem d_X11_pool_158 : decode cX11_pool 158 = .ok (.aload_n 3, 1) := by decide +kernel
theorem d_X11_pool_159 : decode cX11_pool 159 = .ok (.getfield 167, 3) := by decide +kernel
theorem d_X11_pool_162 : decode cX11_pool 162 = .ok (.iconst 1, 1) := by decide +kernel
theorem d_X11_pool_163 : decode cX11_pool 163 = .ok (.iaload, 1) := by decide +kernel
theorem d_X11_pool_164 : decode cX11_pool 164 = .ok (.ireturn, 1) := by decide +kernel
theorem d_X11_pool_165 : decode cX11_pool 165 = .ok (.aload_n 0, 1) := by decide +kernel
theorem d_X11_pool_166 : decode cX11_pool 166 = .ok (.getfield 19, 3) := by decide +kernel
theorem d_X11_pool_169 : decode cX11_pool 169 = .ok (.iload_n 1, 1) := by decide +kernel
theorem d_X11_pool_170 : decode cX11_pool 170 = .ok (.iconst 0, 1) := by decide +kernel
theorem d_X11_pool_171 : decode cX11_pool 171 = .ok (.invokevirtual 170, 3) := by decide +kernel
theorem d_X11_pool_174 : decode cX11_pool 174 = .ok (.l2i, 1) := by decide +kernel
theorem d_X11_pool_175 : decode cX11_pool 175 = .ok (.ireturn, 1) := by decide +kernel
theorem d_X11_pool_176 : decode cX11_pool 176 = .ok (.aload_n 0, 1) := by decide +kernel
theorem d_X11_pool_177 : decode cX11_pool 177 = .ok (.getfield 19, 3) := by decide +kernel
theorem d_X11_pool_180 : decode cX11_pool 180 = .ok (.iload_n 1, 1) := by decide +kernel
theorem d_X11_pool_181 : decode cX11_pool 181 = .ok (.iconst 1, 1) := by decide +kernel
theorem d_X11_pool_182 : decode cX11_pool 182 = .ok (.invokevirtual 170, 3) := by decide +kernel
theorem d_X11_pool_185 : decode cX11_pool 185 = .ok (.l2i, 1) := by decide +kernel
theorem d_X11_pool_186 : decode cX11_pool 186 = .ok (.ireturn, 1) := by decide +kernel
theorem d_X11_pool_187 : decode cX11_pool 187 = .ok (.iconst (-1), 1) := by decide +kernel
theorem d_X11_pool_188 : decode cX11_pool 188 = .ok (.ireturn, 1) := by decide +kernel
/-- TickPools.pool(II)I -/
def f_X11_pool (p1 : Int32) (p2 : Int32) (S : Mem) : Option (Int32 × Mem) := ((f_X2_poolAt 78 p1 S).bind fun q5 => (if q5.1 = 0 then (some ((-1), q5.2)) else (if p2 = 0 then (if kd q5.1 = (3, 12) then (some ((gI q5.2 q5.1 0), q5.2)) else none) else (if p2 = 1 then (if kd q5.1 = (3, 12) then (some ((gI q5.2 q5.1 1), q5.2)) else none) else (if p2 = 2 then (if kd q5.1 = (3, 12) then (some ((gI q5.2 q5.1 2), q5.2)) else none) else (if p2 = 3 then (if kd q5.1 = (3, 12) then (some ((gI q5.2 q5.1 3), q5.2)) else none) else (if p2 = 4 then (if kd q5.1 = (3, 12) then (some ((gI q5.2 q5.1 4), q5.2)) else none) else (if p2 = 5 then (if kd q5.1 = (3, 12) then (some ((gI q5.2 q5.1 6), q5.2)) else none) else (if p2 = 6 then (if kd q5.1 = (3, 12) then (some ((gI q5.2 q5.1 5), q5.2)) else none) else (if p2 = 7 then (if kd q5.1 = (3, 12) then ((f_X2_liquidityAt 78 p1 (gI q5.2 q5.1 6) q5.2).bind fun q132 => (some (((q132.1 : Int64).toInt32), q132.2))) else none) else (if p2 = 8 then (if kd q5.1 = (3, 12) then (some ((gI q5.2 (q5.1 + 1) ((0 : Int32).toNatClampNeg)), q5.2)) else none) else (if p2 = 9 then (if kd q5.1 = (3, 12) then (some ((gI q5.2 (q5.1 + 1) ((1 : Int32).toNatClampNeg)), q5.2)) else none) else (if p2 = 10 then (if kd q5.1 = (3, 12) then (some ((gI q5.2 (q5.1 + 2) ((0 : Int32).toNatClampNeg)), q5.2)) else none) else (if p2 = 11 then (if kd q5.1 = (3, 12) then (some ((gI q5.2 (q5.1 + 2) ((1 : Int32).toNatClampNeg)), q5.2)) else none) else (if p2 = 12 then ((f_X2_overIn 78 p1 0 q5.2).bind fun q171 => (some (((q171.1 : Int64).toInt32), q171.2))) else (if p2 = 13 then ((f_X2_overIn 78 p1 1 q5.2).bind fun q182 => (some (((q182.1 : Int64).toInt32), q182.2))) else (some ((-1), q5.2))))))))))))))))))
set_option maxRecDepth 20000 in
theorem c_X11_pool {l : Launch} {Γ : GG} (hI : Inj Γ) {p1 : Int32} {p2 : Int32} {S : Mem} {q : Int32 × Mem} (hf : f_X11_pool p1 p2 S = some q) : MM l Γ yX11_pool cX11_pool 4 (some .int) 3 90 [aR 1, aI p1, aI p2] S (some (aI q.1)) q.2 := by
  refine met_of hI "TickPools" rfl (by decide +kernel) (Nat.le_of_ble_eq_true rfl) (fun X hX C hr => ?_)
  unfold f_X11_pool at hf
  show ZZ X Γ 4 _ S 0 [(0, aR 1), (1, aI p1), (2, aI p2)] []
  refine z_aload_n (j := 0) C d_X11_pool_0 rfl ?_
  refine zg_X11_live C rfl tw_461 d_X11_pool_1 ?_
  refine z_iload_n (j := 1) C d_X11_pool_4 rfl ?_
  obtain ⟨q5, hF, hf⟩ := bd hf
  refine z_callV1 (rest := []) C [aI p1] rfl (by decide) rfl rfl k_X2_poolAt tw_1021 ⟨by decide, by decide⟩ (Nat.le_of_ble_eq_true rfl) d_X11_pool_5 (c_X2_poolAt C.inj hF) rfl ?_
  refine z_astore_n (lv' := [(3, aR q5.1), (0, aR 1), (1, aI p1), (2, aI p2)]) C d_X11_pool_8 (by decide) rfl ?_
  refine z_aload_n (j := 0) C d_X11_pool_9 rfl ?_
  refine z_ifnonnull (tgt := 15) C d_X11_pool_10 (by decide) hf (fun c10 hf => ?_) (fun c10 hf => ?_)
  · refine z_iload_n (j := 3) C d_X11_pool_15 rfl ?_
    by_cases c16_0 : p2 = 0
    · rw [if_pos c16_0] at hf
      refine z_tin (tgt := 88) C d_X11_pool_16 (by rw [c16_0]; decide) (by rw [c16_0]; decide) (by rw [c16_0]; rfl) (by decide) ?_
      refine z_aload_n (j := 0) C d_X11_pool_88 rfl ?_
      obtain ⟨hg89_0, hf⟩ := gd hf
      refine zg_X4_first C hg89_0 tw_76 d_X11_pool_89 ?_
      exact r_i C hr rfl d_X11_pool_92 hf
    rw [if_neg c16_0] at hf
    have d16_0 := tn (n := 0) c16_0 (by decide)
    by_cases c16_1 : p2 = 1
    · rw [if_pos c16_1] at hf
      refine z_tin (tgt := 93) C d_X11_pool_16 (by rw [c16_1]; decide) (by rw [c16_1]; decide) (by rw [c16_1]; rfl) (by decide) ?_
      refine z_aload_n (j := 0) C d_X11_pool_93 rfl ?_
      obtain ⟨hg94_0, hf⟩ := gd hf
      refine zg_X4_second C hg94_0 tw_80 d_X11_pool_94 ?_
      exact r_i C hr rfl d_X11_pool_97 hf
    rw [if_neg c16_1] at hf
    have d16_1 := tn (n := 1) c16_1 (by decide)
    by_cases c16_2 : p2 = 2
    · rw [if_pos c16_2] at hf
      refine z_tin (tgt := 98) C d_X11_pool_16 (by rw [c16_2]; decide) (by rw [c16_2]; decide) (by rw [c16_2]; rfl) (by decide) ?_
      refine z_aload_n (j := 0) C d_X11_pool_98 rfl ?_
      obtain ⟨hg99_0, hf⟩ := gd hf
      refine zg_X4_fee C hg99_0 tw_85 d_X11_pool_99 ?_
      exact r_i C hr rfl d_X11_pool_102 hf
    rw [if_neg c16_2] at hf
    have d16_2 := tn (n := 2) c16_2 (by decide)
    by_cases c16_3 : p2 = 3
    · rw [if_pos c16_3] at hf
      refine z_tin (tgt := 103) C d_X11_pool_16 (by rw [c16_3]; decide) (by rw [c16_3]; decide) (by rw [c16_3]; rfl) (by decide) ?_
      refine z_aload_n (j := 0) C d_X11_pool_103 rfl ?_
      obtain ⟨hg104_0, hf⟩ := gd hf
      refine zg_X4_cut C hg104_0 tw_89 d_X11_pool_104 ?_
      exact r_i C hr rfl d_X11_pool_107 hf
    rw [if_neg c16_3] at hf
    have d16_3 := tn (n := 3) c16_3 (by decide)
    by_cases c16_4 : p2 = 4
    · rw [if_pos c16_4] at hf
      refine z_tin (tgt := 108) C d_X11_pool_16 (by rw [c16_4]; decide) (by rw [c16_4]; decide) (by rw [c16_4]; rfl) (by decide) ?_
      refine z_aload_n (j := 0) C d_X11_pool_108 rfl ?_
      obtain ⟨hg109_0, hf⟩ := gd hf
      refine zg_X4_spacing C hg109_0 tw_93 d_X11_pool_109 ?_
      exact r_i C hr rfl d_X11_pool_112 hf
    rw [if_neg c16_4] at hf
    have d16_4 := tn (n := 4) c16_4 (by decide)
    by_cases c16_5 : p2 = 5
    · rw [if_pos c16_5] at hf
      refine z_tin (tgt := 113) C d_X11_pool_16 (by rw [c16_5]; decide) (by rw [c16_5]; decide) (by rw [c16_5]; rfl) (by decide) ?_
      refine z_aload_n (j := 0) C d_X11_pool_113 rfl ?_
      obtain ⟨hg114_0, hf⟩ := gd hf
      refine zg_X4_zone C hg114_0 tw_102 d_X11_pool_114 ?_
      exact r_i C hr rfl d_X11_pool_117 hf
    rw [if_neg c16_5] at hf
    have d16_5 := tn (n := 5) c16_5 (by decide)
    by_cases c16_6 : p2 = 6
    · rw [if_pos c16_6] at hf
      refine z_tin (tgt := 118) C d_X11_pool_16 (by rw [c16_6]; decide) (by rw [c16_6]; decide) (by rw [c16_6]; rfl) (by decide) ?_
      refine z_aload_n (j := 0) C d_X11_pool_118 rfl ?_
      obtain ⟨hg119_0, hf⟩ := gd hf
      refine zg_X4_root C hg119_0 tw_98 d_X11_pool_119 ?_
      exact r_i C hr rfl d_X11_pool_122 hf
    rw [if_neg c16_6] at hf
    have d16_6 := tn (n := 6) c16_6 (by decide)
    by_cases c16_7 : p2 = 7
    · rw [if_pos c16_7] at hf
      refine z_tin (tgt := 123) C d_X11_pool_16 (by rw [c16_7]; decide) (by rw [c16_7]; decide) (by rw [c16_7]; rfl) (by decide) ?_
      refine z_aload_n (j := 1) C d_X11_pool_123 rfl ?_
      refine zg_X11_live C rfl tw_461 d_X11_pool_124 ?_
      refine z_iload_n (j := 2) C d_X11_pool_127 rfl ?_
      refine z_aload_n (j := 0) C d_X11_pool_128 rfl ?_
      obtain ⟨hg129_0, hf⟩ := gd hf
      refine zg_X4_zone C hg129_0 tw_102 d_X11_pool_129 ?_
      obtain ⟨q132, hF, hf⟩ := bd hf
      refine z_callV1 (rest := []) C [aI p1, aI (gI q5.2 q5.1 6)] rfl (by decide) rfl rfl k_X2_liquidityAt tw_1022 ⟨by decide, by decide⟩ (Nat.le_of_ble_eq_true rfl) d_X11_pool_132 (c_X2_liquidityAt C.inj hF) rfl ?_
      refine z_l2i C d_X11_pool_135 ?_
      exact r_i C hr rfl d_X11_pool_136 hf
    rw [if_neg c16_7] at hf
    have d16_7 := tn (n := 7) c16_7 (by decide)
    by_cases c16_8 : p2 = 8
    · rw [if_pos c16_8] at hf
      refine z_tin (tgt := 137) C d_X11_pool_16 (by rw [c16_8]; decide) (by rw [c16_8]; decide) (by rw [c16_8]; rfl) (by decide) ?_
      refine z_aload_n (j := 0) C d_X11_pool_137 rfl ?_
      obtain ⟨hg138_0, hf⟩ := gd hf
      refine zg_X4_held C hg138_0 tw_107 d_X11_pool_138 ?_
      refine z_iconst (v := 0) C d_X11_pool_141 (by decide) ?_
      refine z_iald C (kdP1 hg138_0) (by decide) d_X11_pool_142 ?_
      exact r_i C hr rfl d_X11_pool_143 hf
    rw [if_neg c16_8] at hf
    have d16_8 := tn (n := 8) c16_8 (by decide)
    by_cases c16_9 : p2 = 9
    · rw [if_pos c16_9] at hf
      refine z_tin (tgt := 144) C d_X11_pool_16 (by rw [c16_9]; decide) (by rw [c16_9]; decide) (by rw [c16_9]; rfl) (by decide) ?_
      refine z_aload_n (j := 0) C d_X11_pool_144 rfl ?_
      obtain ⟨hg145_0, hf⟩ := gd hf
      refine zg_X4_held C hg145_0 tw_107 d_X11_pool_145 ?_
      refine z_iconst (v := 1) C d_X11_pool_148 (by decide) ?_
      refine z_iald C (kdP1 hg145_0) (by decide) d_X11_pool_149 ?_
      exact r_i C hr rfl d_X11_pool_150 hf
    rw [if_neg c16_9] at hf
    have d16_9 := tn (n := 9) c16_9 (by decide)
    by_cases c16_10 : p2 = 10
    · rw [if_pos c16_10] at hf
      refine z_tin (tgt := 151) C d_X11_pool_16 (by rw [c16_10]; decide) (by rw [c16_10]; decide) (by rw [c16_10]; rfl) (by decide) ?_
      refine z_aload_n (j := 0) C d_X11_pool_151 rfl ?_
      obtain ⟨hg152_0, hf⟩ := gd hf
      refine zg_X4_house C hg152_0 tw_111 d_X11_pool_152 ?_
      refine z_iconst (v := 0) C d_X11_pool_155 (by decide) ?_
      refine z_iald C (kdP2 hg152_0) (by decide) d_X11_pool_156 ?_
      exact r_i C hr rfl d_X11_pool_157 hf
    rw [if_neg c16_10] at hf
    have d16_10 := tn (n := 10) c16_10 (by decide)
    by_cases c16_11 : p2 = 11
    · rw [if_pos c16_11] at hf
      refine z_tin (tgt := 158) C d_X11_pool_16 (by rw [c16_11]; decide) (by rw [c16_11]; decide) (by rw [c16_11]; rfl) (by decide) ?_
      refine z_aload_n (j := 0) C d_X11_pool_158 rfl ?_
      obtain ⟨hg159_0, hf⟩ := gd hf
      refine zg_X4_house C hg159_0 tw_111 d_X11_pool_159 ?_
      refine z_iconst (v := 1) C d_X11_pool_162 (by decide) ?_
      refine z_iald C (kdP2 hg159_0) (by decide) d_X11_pool_163 ?_
      exact r_i C hr rfl d_X11_pool_164 hf
    rw [if_neg c16_11] at hf
    have d16_11 := tn (n := 11) c16_11 (by decide)
    by_cases c16_12 : p2 = 12
    · rw [if_pos c16_12] at hf
      refine z_tin (tgt := 165) C d_X11_pool_16 (by rw [c16_12]; decide) (by rw [c16_12]; decide) (by rw [c16_12]; rfl) (by decide) ?_
      refine z_aload_n (j := 1) C d_X11_pool_165 rfl ?_
      refine zg_X11_live C rfl tw_461 d_X11_pool_166 ?_
      refine z_iload_n (j := 2) C d_X11_pool_169 rfl ?_
      refine z_iconst (v := 0) C d_X11_pool_170 (by decide) ?_
      obtain ⟨q171, hF, hf⟩ := bd hf
      refine z_callV1 (rest := []) C [aI p1, aI 0] rfl (by decide) rfl rfl k_X2_overIn tw_1023 ⟨by decide, by decide⟩ (Nat.le_of_ble_eq_true rfl) d_X11_pool_171 (c_X2_overIn C.inj hF) rfl ?_
      refine z_l2i C d_X11_pool_174 ?_
      exact r_i C hr rfl d_X11_pool_175 hf
    rw [if_neg c16_12] at hf
    have d16_12 := tn (n := 12) c16_12 (by decide)
    by_cases c16_13 : p2 = 13
    · rw [if_pos c16_13] at hf
      refine z_tin (tgt := 176) C d_X11_pool_16 (by rw [c16_13]; decide) (by rw [c16_13]; decide) (by rw [c16_13]; rfl) (by decide) ?_
      refine z_aload_n (j := 1) C d_X11_pool_176 rfl ?_
      refine zg_X11_live C rfl tw_461 d_X11_pool_177 ?_
      refine z_iload_n (j := 2) C d_X11_pool_180 rfl ?_
      refine z_iconst (v := 1) C d_X11_pool_181 (by decide) ?_
      obtain ⟨q182, hF, hf⟩ := bd hf
      refine z_callV1 (rest := []) C [aI p1, aI 1] rfl (by decide) rfl rfl k_X2_overIn tw_1023 ⟨by decide, by decide⟩ (Nat.le_of_ble_eq_true rfl) d_X11_pool_182 (c_X2_overIn C.inj hF) rfl ?_
      refine z_l2i C d_X11_pool_185 ?_
      exact r_i C hr rfl d_X11_pool_186 hf
    rw [if_neg c16_13] at hf
    have d16_13 := tn (n := 13) c16_13 (by decide)
    refine z_tout (tgt := 187) C d_X11_pool_16 (by omega) (by decide) ?_
    refine z_iconst (v := (-1)) C d_X11_pool_187 (by decide) ?_
    exact r_i C hr rfl d_X11_pool_188 hf
  · refine z_iconst (v := (-1)) C d_X11_pool_13 (by decide) ?_
    exact r_i C hr rfl d_X11_pool_14 hf
theorem d_X11_isZone_0 : decode cX11_isZone 0 = .ok (.iload_n 0, 1) := by decide +kernel
theorem d_X11_isZone_1 : decode cX11_isZone 1 = .ok (.ifCond .lt 13, 3) := by decide +kernel
theorem d_X11_isZone_4 : decode cX11_isZone 4 = .ok (.iload_n 0, 1) := by decide +kernel
theorem d_X11_isZone_5 : decode cX11_isZone 5 = .ok (.bipush 40, 2) := by decide +kernel
theorem d_X11_isZone_7 : decode cX11_isZone 7 = .ok (.if_icmp .ge 7, 3) := by decide +kernel
theorem d_X11_isZone_10 : decode cX11_isZone 10 = .ok (.iconst 1, 1) := by decide +kernel
theorem d_X11_isZone_11 : decode cX11_isZone 11 = .ok (.goto 4, 3) := by decide +kernel
theorem d_X11_isZone_14 : decode cX11_isZone 14 = .ok (.iconst 0, 1) := by decide +kernel
theorem d_X11_isZone_15 : decode cX11_isZone 15 = .ok (.ireturn, 1) := by decide +kernel
def f_X11_isZone_15 (s0 : Int32) (S : Mem) : Option (Int32 × Mem) := (if isB s0 = true then (some (s0, S)) else none)
set_option maxRecDepth 20000 in
theorem t_X11_isZone_15 {X : MC} {Γ : GG} (C : CX X Γ cX11_isZone 1 "TickPools" 0 0) (hr : X.2.2.2.2.2.2.2.2.1.sig.returnType = some .boolean) {q : Int32 × Mem} (s0 : Int32) (S : Mem) (hf : f_X11_isZone_15 s0 S = some q) : ZZ X Γ 1 (QQ X Γ (some (aI q.1)) q.2) S 15 [] [aI s0] := by
  unfold f_X11_isZone_15 at hf
  obtain ⟨hb15_0, hf⟩ := gd hf
  exact r_i C hr (isB_nar hb15_0).1 d_X11_isZone_15 hf
def f_X11_isZone_14 (S : Mem) : Option (Int32 × Mem) := (f_X11_isZone_15  0 S)
set_option maxRecDepth 20000 in
theorem t_X11_isZone_14 {X : MC} {Γ : GG} (C : CX X Γ cX11_isZone 1 "TickPools" 0 0) (hr : X.2.2.2.2.2.2.2.2.1.sig.returnType = some .boolean) {q : Int32 × Mem} (S : Mem) (hf : f_X11_isZone_14 S = some q) : ZZ X Γ 1 (QQ X Γ (some (aI q.1)) q.2) S 14 [] [] := by
  unfold f_X11_isZone_14 at hf
  refine z_iconst (v := 0) C d_X11_isZone_14 (by decide) ?_
  exact z_sub [] rfl (t_X11_isZone_15 C hr  _ _ hf)
/-- TickPools.isZone(I)Z -/
def f_X11_isZone (p0 : Int32) (S : Mem) : Option (Int32 × Mem) := (if p0 < 0 then (f_X11_isZone_14  S) else (if 40 ≤ p0 then (f_X11_isZone_14  S) else (f_X11_isZone_15  1 S)))
set_option maxRecDepth 20000 in
theorem c_X11_isZone {l : Launch} {Γ : GG} (hI : Inj Γ) {p0 : Int32} {S : Mem} {q : Int32 × Mem} (hf : f_X11_isZone p0 S = some q) : MM l Γ yX11_isZone cX11_isZone 1 (some .boolean) 0 0 [aI p0] S (some (aI q.1)) q.2 := by
  refine met_of hI "TickPools" rfl (by decide +kernel) (Nat.le_of_ble_eq_true rfl) (fun X hX C hr => ?_)
  unfold f_X11_isZone at hf
  show ZZ X Γ 1 _ S 0 [(0, aI p0)] []
  refine z_iload_n (j := 0) C d_X11_isZone_0 rfl ?_
  refine z_if_lt (tgt := 14) C d_X11_isZone_1 (by decide) hf (fun c1 hf => ?_) (fun c1 hf => ?_)
  · exact z_sub [] rfl (t_X11_isZone_14 C hr  _ hf)
  · refine z_iload_n (j := 0) C d_X11_isZone_4 rfl ?_
    refine z_bipush (v := 40) C d_X11_isZone_5 (by decide) ?_
    refine z_icmp_ge (tgt := 14) C d_X11_isZone_7 (by decide) hf (fun c7 hf => ?_) (fun c7 hf => ?_)
    · exact z_sub [] rfl (t_X11_isZone_14 C hr  _ hf)
    · refine z_iconst (v := 1) C d_X11_isZone_10 (by decide) ?_
      refine z_goto (tgt := 15) C d_X11_isZone_11 (by decide) ?_
      exact z_sub [] rfl (t_X11_isZone_15 C hr  _ _ hf)
theorem d_X11_depth_0 : decode cX11_depth 0 = .ok (.aload_n 0, 1) := by decide +kernel
theorem d_X11_depth_1 : decode cX11_depth 1 = .ok (.getfield 19, 3) := by decide +kernel
theorem d_X11_depth_4 : decode cX11_depth 4 = .ok (.iload_n 1, 1) := by decide +kernel
theorem d_X11_depth_5 : decode cX11_depth 5 = .ok (.invokevirtual 132, 3) := by decide +kernel
theorem d_X11_depth_8 : decode cX11_depth 8 = .ok (.ifnull 23, 3) := by decide +kernel
theorem d_X11_depth_11 : decode cX11_depth 11 = .ok (.iload_n 2, 1) := by decide +kernel
theorem d_X11_depth_12 : decode cX11_depth 12 = .ok (.invokestatic 173, 3) := by decide +kernel
theorem d_X11_depth_15 : decode cX11_depth 15 = .ok (.ifCond .eq 16, 3) := by decide +kernel
theorem d_X11_depth_18 : decode cX11_depth 18 = .ok (.aload_n 0, 1) := by decide +kernel
theorem d_X11_depth_19 : decode cX11_depth 19 = .ok (.getfield 19, 3) := by decide +kernel
theorem d_X11_depth_22 : decode cX11_depth 22 = .ok (.iload_n 1, 1) := by decide +kernel
theorem d_X11_depth_23 : decode cX11_depth 23 = .ok (.iload_n 2, 1) := by decide +kernel
theorem d_X11_depth_24 : decode cX11_depth 24 = .ok (.invokevirtual 159, 3) := by decide +kernel
theorem d_X11_depth_27 : decode cX11_depth 27 = .ok (.l2i, 1) := by decide +kernel
theorem d_X11_depth_28 : decode cX11_depth 28 = .ok (.goto 4, 3) := by decide +kernel
theorem d_X11_depth_31 : decode cX11_depth 31 = .ok (.iconst (-1), 1) := by decide +kernel
theorem d_X11_depth_32 : decode cX11_depth 32 = .ok (.ireturn, 1) := by decide +kernel
def f_X11_depth_32 (s0 : Int32) (S : Mem) : Option (Int32 × Mem) := (some (s0, S))
set_option maxRecDepth 20000 in
theorem t_X11_depth_32 {X : MC} {Γ : GG} (C : CX X Γ cX11_depth 3 "TickPools" 1 26) (hr : X.2.2.2.2.2.2.2.2.1.sig.returnType = some .int) {q : Int32 × Mem} (s0 : Int32) (S : Mem) (hf : f_X11_depth_32 s0 S = some q) : ZZ X Γ 3 (QQ X Γ (some (aI q.1)) q.2) S 32 [] [aI s0] := by
  unfold f_X11_depth_32 at hf
  exact r_i C hr rfl d_X11_depth_32 hf
def f_X11_depth_31 (S : Mem) : Option (Int32 × Mem) := (f_X11_depth_32  (-1) S)
set_option maxRecDepth 20000 in
theorem t_X11_depth_31 {X : MC} {Γ : GG} (C : CX X Γ cX11_depth 3 "TickPools" 1 26) (hr : X.2.2.2.2.2.2.2.2.1.sig.returnType = some .int) {q : Int32 × Mem} (S : Mem) (hf : f_X11_depth_31 S = some q) : ZZ X Γ 3 (QQ X Γ (some (aI q.1)) q.2) S 31 [] [] := by
  unfold f_X11_depth_31 at hf
  refine z_iconst (v := (-1)) C d_X11_depth_31 (by decide) ?_
  exact z_sub [] rfl (t_X11_depth_32 C hr  _ _ hf)
/-- TickPools.depth(II)I -/
def f_X11_depth (p1 : Int32) (p2 : Int32) (S : Mem) : Option (Int32 × Mem) := ((f_X2_poolAt 78 p1 S).bind fun q5 => (if q5.1 = 0 then (f_X11_depth_31  q5.2) else ((f_X11_isZone p2 q5.2).bind fun q12 => (if q12.1 = 0 then (f_X11_depth_31  q12.2) else ((f_X2_liquidityAt 78 p1 p2 q12.2).bind fun q24 => (f_X11_depth_32  ((q24.1 : Int64).toInt32) q24.2))))))
set_option maxRecDepth 20000 in
theorem c_X11_depth {l : Launch} {Γ : GG} (hI : Inj Γ) {p1 : Int32} {p2 : Int32} {S : Mem} {q : Int32 × Mem} (hf : f_X11_depth p1 p2 S = some q) : MM l Γ yX11_depth cX11_depth 3 (some .int) 1 26 [aR 1, aI p1, aI p2] S (some (aI q.1)) q.2 := by
  refine met_of hI "TickPools" rfl (by decide +kernel) (Nat.le_of_ble_eq_true rfl) (fun X hX C hr => ?_)
  unfold f_X11_depth at hf
  show ZZ X Γ 3 _ S 0 [(0, aR 1), (1, aI p1), (2, aI p2)] []
  refine z_aload_n (j := 0) C d_X11_depth_0 rfl ?_
  refine zg_X11_live C rfl tw_461 d_X11_depth_1 ?_
  refine z_iload_n (j := 1) C d_X11_depth_4 rfl ?_
  obtain ⟨q5, hF, hf⟩ := bd hf
  refine z_callV1 (rest := []) C [aI p1] rfl (by decide) rfl rfl k_X2_poolAt tw_1021 ⟨by decide, by decide⟩ (Nat.le_of_ble_eq_true rfl) d_X11_depth_5 (c_X2_poolAt C.inj hF) rfl ?_
  refine z_ifnull (tgt := 31) C d_X11_depth_8 (by decide) hf (fun c8 hf => ?_) (fun c8 hf => ?_)
  · exact z_sub [] rfl (t_X11_depth_31 C hr  _ hf)
  · refine z_iload_n (j := 2) C d_X11_depth_11 rfl ?_
    obtain ⟨q12, hF, hf⟩ := bd hf
    refine z_callS1 (rest := []) C [aI p2] k_X11_isZone tw_1032 ⟨by decide, by decide⟩ (Nat.le_of_ble_eq_true rfl) d_X11_depth_12 (c_X11_isZone C.inj hF) rfl ?_
    refine z_if_eq (tgt := 31) C d_X11_depth_15 (by decide) hf (fun c15 hf => ?_) (fun c15 hf => ?_)
    · exact z_sub [] rfl (t_X11_depth_31 C hr  _ hf)
    · refine z_aload_n (j := 0) C d_X11_depth_18 rfl ?_
      refine zg_X11_live C rfl tw_461 d_X11_depth_19 ?_
      refine z_iload_n (j := 1) C d_X11_depth_22 rfl ?_
      refine z_iload_n (j := 2) C d_X11_depth_23 rfl ?_
      obtain ⟨q24, hF, hf⟩ := bd hf
      refine z_callV1 (rest := []) C [aI p1, aI p2] rfl (by decide) rfl rfl k_X2_liquidityAt tw_1022 ⟨by decide, by decide⟩ (Nat.le_of_ble_eq_true rfl) d_X11_depth_24 (c_X2_liquidityAt C.inj hF) rfl ?_
      refine z_l2i C d_X11_depth_27 ?_
      refine z_goto (tgt := 32) C d_X11_depth_28 (by decide) ?_
      exact z_sub [] rfl (t_X11_depth_32 C hr  _ _ hf)
